/-! THE INVARIANT, over Int -/
def tz (f : Nat → Int32) : Nat → Int := fun k => (f k).toInt
theorem iz_tz (x : Int32) : x = iz x.toInt := by
  unfold iz
  rw [Int32.ofInt_toInt]
theorem az_tz (f : Nat → Int32) : f = az (tz f) := by
  funext k
  exact iz_tz (f k)
theorem sm_tz (x : Int32) : sm x.toInt := by
  unfold sm
  have h1 := x.le_toInt
  have h2 := x.toInt_lt
  omega
theorem iz_s {z : Int} (h1 : -100000 ≤ z) (h2 : z ≤ 100000) : (iz z).toInt = z := iz_to (smz h1 h2)
/-- plan and state -/
def PI (pe ar : Nat → Int) (sr ps : Int) (qf qt qw ql qs S : Nat → Int) : Prop := PV6 S ∧ PQ pe sr ps qf qt qw ql qs S ∧ ∀ r, r < 6 → ar r = S (6 + r)
theorem wz_at {S : Nat → Int} {k : Nat} (h1 : -100000 ≤ S k) (h2 : S k ≤ 100000) : tz (az S) k = S k := iz_s h1 h2
theorem PV_az {S : Nat → Int} (h : PV S) : PV (tz (az S)) := by
  obtain ⟨a, b, c, d⟩ := h
  have e68 : tz (az S) 68 = S 68 := wz_at (by omega) (by omega)
  refine ⟨fun r hr => ?_, by rw [e68]; exact b, by rw [e68]; exact c, fun p hp => ?_⟩
  · have v := a r hr
    rw [wz_at (k := r) (by omega) (by omega), wz_at (k := 6 + r) (by omega) (by omega), wz_at (k := 12 + r) (by omega) (by omega)]
    exact v
  · rw [e68] at hp
    have v := d p hp
    rw [wz_at (k := 18 + p) (by omega) (by omega), wz_at (k := 28 + p) (by omega) (by omega), wz_at (k := 38 + p) (by omega) (by omega), wz_at (k := 48 + p) (by omega) (by omega), wz_at (k := 58 + p) (by omega) (by omega)]
    exact v
theorem PV6_az {S : Nat → Int} (h : PV6 S) : PV6 (tz (az S)) := by
  refine ⟨PV_az h.1, fun p hp => ?_⟩
  have b0 := h.1.2.1
  have b1 := h.1.2.2.1
  rw [wz_at (k := 68) (by omega) (by omega)] at hp
  have v := h.1.2.2.2 p hp
  have w := h.2 p hp
  rw [wz_at (k := 38 + p) (by omega) (by omega)]
  exact w
theorem smS_az {S : Nat → Int} (h : PV S) : smS (tz (az S)) = smS S := by
  have h0 := (h.1 0 (by omega)).2.2.2.2
  have h1 := (h.1 1 (by omega)).2.2.2.2
  have h2 := (h.1 2 (by omega)).2.2.2.2
  have h3 := (h.1 3 (by omega)).2.2.2.2
  have h4 := (h.1 4 (by omega)).2.2.2.2
  have h5 := (h.1 5 (by omega)).2.2.2.2
  have h0 : S 12 = 0 ∨ S 12 = 1 := h0
  have h1 : S 13 = 0 ∨ S 13 = 1 := h1
  have h2 : S 14 = 0 ∨ S 14 = 1 := h2
  have h3 : S 15 = 0 ∨ S 15 = 1 := h3
  have h4 : S 16 = 0 ∨ S 16 = 1 := h4
  have h5 : S 17 = 0 ∨ S 17 = 1 := h5
  unfold smS
  rw [wz_at (k := 12) (by omega) (by omega), wz_at (k := 13) (by omega) (by omega), wz_at (k := 14) (by omega) (by omega), wz_at (k := 15) (by omega) (by omega), wz_at (k := 16) (by omega) (by omega), wz_at (k := 17) (by omega) (by omega)]
theorem wz_cg {F S : Nat → Int} {i j : Nat} (h : F i = S j) : tz (az F) i = tz (az S) j := by
  show (iz (F i)).toInt = (iz (S j)).toInt
  rw [h]
theorem PI_az {pe ar : Nat → Int} {sr ps : Int} {qf qt qw ql qs S : Nat → Int} (h : PI pe ar sr ps qf qt qw ql qs S) : PI (tz (az pe)) (tz (az ar)) (iz sr).toInt (iz ps).toInt (tz (az qf)) (tz (az qt)) (tz (az qw)) (tz (az ql)) (tz (az qs)) (tz (az S)) := by
  obtain ⟨h1, ⟨a, b, c, d⟩, e⟩ := h
  have hb := smS_b h1.1
  refine ⟨PV6_az h1, ⟨fun r hr => wz_cg (a r hr), ?_, ?_, fun p hp => ?_⟩, fun r hr => wz_cg (e r hr)⟩
  · rw [smS_az h1.1, ← b]; exact iz_s (by omega) (by omega)
  · show (iz ps).toInt = (iz (S 68)).toInt
    rw [c]
  · have v := d p hp
    exact ⟨wz_cg v.1, wz_cg v.2.1, wz_cg v.2.2.1, wz_cg v.2.2.2.1, wz_cg v.2.2.2.2⟩
theorem FI_az {F G L Wd Sh : Nat → Int} (h : FI F G L Wd Sh) : FI (tz (az F)) (tz (az G)) (tz (az L)) (tz (az Wd)) (tz (az Sh)) := by
  intro r hr
  have v := h r hr
  rw [wz_at (S := F) (k := r) (by omega) (by omega), wz_at (S := G) (k := r) (by omega) (by omega), wz_at (S := L) (k := r) (by omega) (by omega), wz_at (S := Wd) (k := r) (by omega) (by omega), wz_at (S := Sh) (k := r) (by omega) (by omega)]
  exact v
/-- the pads -/
def PD (ds : Nat → Int) (n : Int) (mp : Nat → Int) (k : Int) : Prop := n = k ∧ 0 ≤ n ∧ n ≤ 40 ∧ ∀ i : Nat, (i : Int) < n → ds i = mp i ∧ 33 ≤ ds i ∧ ds i ≤ 126
theorem PD_az {ds : Nat → Int} {n : Int} {mp : Nat → Int} {k : Int} (h : PD ds n mp k) : PD (tz (az ds)) (iz n).toInt (tz (az mp)) (iz k).toInt := by
  obtain ⟨a, b, c, d⟩ := h
  subst a
  rw [iz_s (by omega) (by omega)]
  refine ⟨rfl, b, c, fun i hi => ?_⟩
  have v := d i hi
  rw [wz_at (S := ds) (k := i) (by omega) (by omega), wz_at (S := mp) (k := i) (by omega) (by omega)]
  exact v
/-- the images -/
def IG (x : Int) (ape aar : Nat → Int) (asr aps : Int) (af at9 aw al as9 : Nat → Int) (bpe bar : Nat → Int) (bsr bps : Int) (bf bt bw bl bs9 : Nat → Int) (I k : Nat → Int) : Prop :=
  (k 0 = 0 ∨ k 0 = 1) ∧ (k 1 = 0 ∨ k 1 = 1) ∧ x = k 0 + 2 * k 1 ∧ (k 0 = 1 → PI ape aar asr aps af at9 aw al as9 I) ∧ (k 1 = 1 → PI bpe bar bsr bps bf bt bw bl bs9 (fun j => I (69 + j)))
theorem IG_az {x : Int} {ape aar : Nat → Int} {asr aps : Int} {af at9 aw al as9 : Nat → Int} {bpe bar : Nat → Int} {bsr bps : Int} {bf bt bw bl bs9 : Nat → Int} {I k : Nat → Int} (h : IG x ape aar asr aps af at9 aw al as9 bpe bar bsr bps bf bt bw bl bs9 I k) :
    IG (iz x).toInt (tz (az ape)) (tz (az aar)) (iz asr).toInt (iz aps).toInt (tz (az af)) (tz (az at9)) (tz (az aw)) (tz (az al)) (tz (az as9)) (tz (az bpe)) (tz (az bar)) (iz bsr).toInt (iz bps).toInt (tz (az bf)) (tz (az bt)) (tz (az bw)) (tz (az bl)) (tz (az bs9)) (tz (az I)) (tz (az k)) := by
  obtain ⟨a, b, c, d, e⟩ := h
  have e0 : tz (az k) 0 = k 0 := wz_at (by omega) (by omega)
  have e1 : tz (az k) 1 = k 1 := wz_at (by omega) (by omega)
  refine ⟨by rw [e0]; exact a, by rw [e1]; exact b, by rw [e0, e1, iz_s (by omega) (by omega)]; exact c, fun z => PI_az (d (by rw [← e0]; exact z)), fun z => PI_az (e (by rw [← e1]; exact z))⟩
theorem PI_cg {pe ar : Nat → Int} {sr ps : Int} {qf qt qw ql qs S pe' ar' qf' qt' qw' ql' qs' S' : Nat → Int} (h : PI pe ar sr ps qf qt qw ql qs S) (h1 : ∀ r, r < 6 → pe' r = pe r ∧ ar' r = ar r) (h2 : ∀ p, p < 10 → qf' p = qf p ∧ qt' p = qt p ∧ qw' p = qw p ∧ ql' p = ql p ∧ qs' p = qs p) (h3 : ∀ j, j < 69 → S' j = S j) : PI pe' ar' sr ps qf' qt' qw' ql' qs' S' := by
  obtain ⟨⟨⟨a1, a2, a3, a4⟩, a5⟩, ⟨b1, b2, b3, b4⟩, c⟩ := h
  refine ⟨⟨⟨fun r hr => ?_, by rw [h3 68 (by omega)]; exact a2, by rw [h3 68 (by omega)]; exact a3, fun p hp => ?_⟩, fun p hp => ?_⟩, ⟨fun r hr => ?_, ?_, by rw [h3 68 (by omega)]; exact b3, fun p hp => ?_⟩, fun r hr => ?_⟩
  · rw [h3 r (by omega), h3 (6 + r) (by omega), h3 (12 + r) (by omega)]; exact a1 r hr
  · rw [h3 68 (by omega)] at hp
    rw [h3 (18 + p) (by omega), h3 (28 + p) (by omega), h3 (38 + p) (by omega), h3 (48 + p) (by omega), h3 (58 + p) (by omega)]; exact a4 p hp
  · rw [h3 68 (by omega)] at hp
    rw [h3 (38 + p) (by omega)]; exact a5 p hp
  · rw [(h1 r hr).1, h3 r (by omega)]; exact b1 r hr
  · unfold smS
    rw [h3 12 (by omega), h3 13 (by omega), h3 14 (by omega), h3 15 (by omega), h3 16 (by omega), h3 17 (by omega)]; exact b2
  · obtain ⟨w1, w2, w3, w4, w5⟩ := h2 p hp
    rw [w1, w2, w3, w4, w5, h3 (18 + p) (by omega), h3 (28 + p) (by omega), h3 (38 + p) (by omega), h3 (48 + p) (by omega), h3 (58 + p) (by omega)]; exact b4 p hp
  · rw [(h1 r hr).2, h3 (6 + r) (by omega)]; exact c r hr
section PIU
variable {pe ar : Nat → Int} {sr ps : Int} {qf qt qw ql qs S : Nat → Int}
theorem PI_room (h : PI pe ar sr ps qf qt qw ql qs S) {r : Nat} (hr : r < 6) {a b : Int} (ha : 0 ≤ a ∧ a ≤ 30) (hb : 1 ≤ b ∧ b ≤ 99) : PI (uz pe r a) (uz ar r b) sr ps qf qt qw ql qs (uz (uz S r a) (6 + r) b) := by
  obtain ⟨⟨⟨a1, a2, a3, a4⟩, a5⟩, ⟨b1, b2, b3, b4⟩, c⟩ := h
  have hi : ∀ j, 12 ≤ j → uz (uz S r a) (6 + r) b j = S j := fun j hj => by rw [uz_n (by omega), uz_n (by omega)]
  have hp : ∀ k, k < 6 → uz (uz S r a) (6 + r) b k = uz S r a k := fun k hk => by rw [uz_n (by omega)]
  have hq : ∀ k, k < 6 → uz (uz S r a) (6 + r) b (6 + k) = if k = r then b else S (6 + k) := fun k hk => by
    by_cases e : k = r
    · subst e; rw [uz_s, if_pos rfl]
    · rw [uz_n (by omega), uz_n (by omega), if_neg e]
  refine ⟨⟨⟨fun k hk => ?_, by rw [hi 68 (by omega)]; exact a2, by rw [hi 68 (by omega)]; exact a3, fun p hp => ?_⟩, fun p hp => ?_⟩, ⟨fun k hk => ?_, ?_, by rw [hi 68 (by omega)]; exact b3, fun p hp => ?_⟩, fun k hk => ?_⟩
  · have v := a1 k hk
    rw [hp k hk, hq k hk, hi (12 + k) (by omega)]
    by_cases e : k = r
    · subst e; rw [uz_s, if_pos rfl]; omega
    · rw [uz_n e, if_neg e]; exact v
  · rw [hi 68 (by omega)] at hp
    rw [hi (18 + p) (by omega), hi (28 + p) (by omega), hi (38 + p) (by omega), hi (48 + p) (by omega), hi (58 + p) (by omega)]; exact a4 p hp
  · rw [hi 68 (by omega)] at hp
    rw [hi (38 + p) (by omega)]; exact a5 p hp
  · rw [hp k hk]
    by_cases e : k = r
    · subst e; rw [uz_s, uz_s]
    · rw [uz_n e, uz_n e]; exact b1 k hk
  · unfold smS
    rw [hi 12 (by omega), hi 13 (by omega), hi 14 (by omega), hi 15 (by omega), hi 16 (by omega), hi 17 (by omega)]; exact b2
  · rw [hi (18 + p) (by omega), hi (28 + p) (by omega), hi (38 + p) (by omega), hi (48 + p) (by omega), hi (58 + p) (by omega)]; exact b4 p hp
  · rw [hq k hk]
    by_cases e : k = r
    · subst e; rw [uz_s, if_pos rfl]
    · rw [uz_n e, if_neg e]; exact c k hk
theorem PI_setw (h : PI pe ar sr ps qf qt qw ql qs S) {p : Nat} (hp : (p : Int) < S 68) {w : Int} (hw : 1 ≤ w ∧ w ≤ 6) : PI pe ar sr ps qf qt (uz qw p w) ql qs (uz S (38 + p) w) := by
  obtain ⟨⟨h1, a5⟩, ⟨b1, b2, b3, b4⟩, c⟩ := h
  have h10 : p < 10 := by have := h1.2.2.1; omega
  refine ⟨⟨h1.setw h10 (by omega), fun k hk => ?_⟩, ⟨fun k hk => by rw [uz_n (by omega)]; exact b1 k hk, by rw [smS_u (by omega)]; exact b2, by rw [uz_n (by omega)]; exact b3, fun k hk => ?_⟩, fun k hk => by rw [uz_n (by omega)]; exact c k hk⟩
  · rw [uz_n (by omega)] at hk
    by_cases e : k = p
    · subst e; rw [uz_s]; omega
    · rw [uz_n (by omega)]; exact a5 k hk
  · rw [uz_n (j := 18 + k) (by omega), uz_n (j := 28 + k) (by omega), uz_n (j := 48 + k) (by omega), uz_n (j := 58 + k) (by omega)]
    have v := b4 k hk
    by_cases e : k = p
    · subst e; rw [uz_s, uz_s]; exact ⟨v.1, v.2.1, rfl, v.2.2.2⟩
    · rw [uz_n e, uz_n (by omega)]; exact v
theorem PI_setc (h : PI pe ar sr ps qf qt qw ql qs S) {p : Nat} (hp : (p : Int) < S 68) {w : Int} (hw : 0 ≤ w ∧ w ≤ 1000) : PI pe ar sr ps qf qt qw ql (uz qs p w) (uz S (58 + p) w) := by
  obtain ⟨⟨h1, a5⟩, ⟨b1, b2, b3, b4⟩, c⟩ := h
  have h10 : p < 10 := by have := h1.2.2.1; omega
  refine ⟨⟨h1.setc h10 (by omega), fun k hk => ?_⟩, ⟨fun k hk => by rw [uz_n (by omega)]; exact b1 k hk, by rw [smS_u (by omega)]; exact b2, by rw [uz_n (by omega)]; exact b3, fun k hk => ?_⟩, fun k hk => by rw [uz_n (by omega)]; exact c k hk⟩
  · rw [uz_n (by omega)] at hk
    have := h1.2.2.1
    rw [uz_n (by omega)]; exact a5 k hk
  · rw [uz_n (j := 18 + k) (by omega), uz_n (j := 28 + k) (by omega), uz_n (j := 48 + k) (by omega), uz_n (j := 38 + k) (by omega)]
    have v := b4 k hk
    by_cases e : k = p
    · subst e; rw [uz_s, uz_s]; exact ⟨v.1, v.2.1, v.2.2.1, v.2.2.2.1, rfl⟩
    · rw [uz_n e, uz_n (by omega)]; exact v
theorem PI_safe (h : PI pe ar sr ps qf qt qw ql qs S) {r : Nat} (hr : r < 6) {b : Int} (hb : b = 0 ∨ b = 1) : PI pe ar (smS (uz S (12 + r) b)) ps qf qt qw ql qs (uz S (12 + r) b) := by
  obtain ⟨⟨⟨a1, a2, a3, a4⟩, a5⟩, ⟨b1, b2, b3, b4⟩, c⟩ := h
  have hi : ∀ j, (j < 12 ∨ 18 ≤ j) → uz S (12 + r) b j = S j := fun j hj => by rw [uz_n (by omega)]
  refine ⟨⟨⟨fun k hk => ?_, by rw [hi 68 (by omega)]; exact a2, by rw [hi 68 (by omega)]; exact a3, fun p hp => ?_⟩, fun p hp => ?_⟩, ⟨fun k hk => ?_, rfl, by rw [hi 68 (by omega)]; exact b3, fun p hp => ?_⟩, fun k hk => ?_⟩
  · have v := a1 k hk
    rw [hi k (by omega), hi (6 + k) (by omega)]
    by_cases e : k = r
    · subst e; rw [uz_s]; omega
    · rw [uz_n (by omega)]; exact v
  · rw [hi 68 (by omega)] at hp
    rw [hi (18 + p) (by omega), hi (28 + p) (by omega), hi (38 + p) (by omega), hi (48 + p) (by omega), hi (58 + p) (by omega)]; exact a4 p hp
  · rw [hi 68 (by omega)] at hp
    rw [hi (38 + p) (by omega)]; exact a5 p hp
  · rw [hi k (by omega)]; exact b1 k hk
  · rw [hi (18 + p) (by omega), hi (28 + p) (by omega), hi (38 + p) (by omega), hi (48 + p) (by omega), hi (58 + p) (by omega)]; exact b4 p hp
  · rw [hi (6 + k) (by omega)]; exact c k hk
abbrev addS (S : Nat → Int) (p : Nat) (a b c d : Int) : Nat → Int := uz (uz (uz (uz (uz (uz S (18 + p) a) (28 + p) b) (38 + p) c) (48 + p) d) (58 + p) 1000) 68 ((uz (uz (uz (uz (uz S (18 + p) a) (28 + p) b) (38 + p) c) (48 + p) d) (58 + p) 1000) 68 + 1)
theorem PI_add (h : PI pe ar sr ps qf qt qw ql qs S) {p : Nat} (hp : S 68 = p) (h10 : p < 10) {a b c d : Int} (ha : 0 ≤ a ∧ a ≤ 5) (hb : 0 ≤ b ∧ b ≤ 5) (hab : a ≠ b) (hc : 1 ≤ c ∧ c ≤ 6) (hd : 1 ≤ d ∧ d ≤ 4) : PI pe ar sr (ps + 1) (uz qf p a) (uz qt p b) (uz qw p c) (uz ql p d) (uz qs p 1000) (addS S p a b c d) := by
  obtain ⟨⟨⟨a1, a2, a3, a4⟩, a5⟩, ⟨b1, b2, b3, b4⟩, e⟩ := h
  have hi : ∀ j, j < 18 → addS S p a b c d j = S j := fun j hj => by
    unfold addS
    rw [uz_n (by omega), uz_n (by omega), uz_n (by omega), uz_n (by omega), uz_n (by omega), uz_n (by omega)]
  have h68 : addS S p a b c d 68 = S 68 + 1 := by
    unfold addS
    rw [uz_s, uz_n (by omega), uz_n (by omega), uz_n (by omega), uz_n (by omega), uz_n (by omega)]
  have f18 : ∀ k, k < 10 → addS S p a b c d (18 + k) = uz (fun i => S (18 + i)) p a k := fun k hk => by
    unfold addS
    rw [uz_n (by omega), uz_n (by omega), uz_n (by omega), uz_n (by omega), uz_n (by omega)]
    by_cases z : k = p
    · subst z; rw [uz_s, uz_s]
    · rw [uz_n (by omega), uz_n z]
  have f28 : ∀ k, k < 10 → addS S p a b c d (28 + k) = uz (fun i => S (28 + i)) p b k := fun k hk => by
    unfold addS
    rw [uz_n (by omega), uz_n (by omega), uz_n (by omega), uz_n (by omega)]
    by_cases z : k = p
    · subst z; rw [uz_s, uz_s]
    · rw [uz_n (by omega), uz_n (by omega), uz_n z]
  have f38 : ∀ k, k < 10 → addS S p a b c d (38 + k) = uz (fun i => S (38 + i)) p c k := fun k hk => by
    unfold addS
    rw [uz_n (by omega), uz_n (by omega), uz_n (by omega)]
    by_cases z : k = p
    · subst z; rw [uz_s, uz_s]
    · rw [uz_n (by omega), uz_n (by omega), uz_n (by omega), uz_n z]
  have f48 : ∀ k, k < 10 → addS S p a b c d (48 + k) = uz (fun i => S (48 + i)) p d k := fun k hk => by
    unfold addS
    rw [uz_n (by omega), uz_n (by omega)]
    by_cases z : k = p
    · subst z; rw [uz_s, uz_s]
    · rw [uz_n (by omega), uz_n (by omega), uz_n (by omega), uz_n (by omega), uz_n z]
  have f58 : ∀ k, k < 10 → addS S p a b c d (58 + k) = uz (fun i => S (58 + i)) p 1000 k := fun k hk => by
    unfold addS
    rw [uz_n (by omega)]
    by_cases z : k = p
    · subst z; rw [uz_s, uz_s]
    · rw [uz_n (by omega), uz_n (by omega), uz_n (by omega), uz_n (by omega), uz_n (by omega), uz_n z]
  have hps : ps = S 68 := b3
  refine ⟨⟨⟨fun k hk => ?_, by rw [h68]; omega, by rw [h68]; omega, fun k hk => ?_⟩, fun k hk => ?_⟩, ⟨fun k hk => ?_, ?_, by rw [h68]; omega, fun k hk => ?_⟩, fun k hk => ?_⟩
  · rw [hi k (by omega), hi (6 + k) (by omega), hi (12 + k) (by omega)]; exact a1 k hk
  · rw [h68] at hk
    rw [f18 k (by omega), f28 k (by omega), f38 k (by omega), f48 k (by omega), f58 k (by omega)]
    by_cases z : k = p
    · subst z; rw [uz_s, uz_s, uz_s, uz_s, uz_s]; omega
    · rw [uz_n z, uz_n z, uz_n z, uz_n z, uz_n z]; exact a4 k (by omega)
  · rw [h68] at hk
    rw [f38 k (by omega)]
    by_cases z : k = p
    · subst z; rw [uz_s]; omega
    · rw [uz_n z]; exact a5 k (by omega)
  · rw [hi k (by omega)]; exact b1 k hk
  · unfold smS
    rw [hi 12 (by omega), hi 13 (by omega), hi 14 (by omega), hi 15 (by omega), hi 16 (by omega), hi 17 (by omega)]; exact b2
  · rw [f18 k hk, f28 k hk, f38 k hk, f48 k hk, f58 k hk]
    by_cases z : k = p
    · subst z; rw [uz_s, uz_s, uz_s, uz_s, uz_s, uz_s, uz_s, uz_s, uz_s, uz_s]; exact ⟨rfl, rfl, rfl, rfl, rfl⟩
    · rw [uz_n z, uz_n z, uz_n z, uz_n z, uz_n z, uz_n z, uz_n z, uz_n z, uz_n z, uz_n z]; exact b4 k hk
  · rw [hi (6 + k) (by omega)]; exact e k hk
end PIU
