/-! THE PAD, THE IMAGES, COUNT: both sides tell the same -/
theorem core_say {ds mp : Nat → Int} {n k : Int} {a1 : Int} (h : PD ds n mp k) (s1 : sm a1) : ∃ ρ U W, iv_X4_say a1 ds n (fun r u => r = ρ ∧ u = U) ∧ iv_X5_say a1 mp k (fun r u => r = ρ ∧ u = W) ∧ PD U.1 U.2 W.1 W.2 := by
  have h2 := h
  obtain ⟨e, b0, b1, hd⟩ := h2
  subst e
  by_cases c1 : 33 ≤ a1 ∧ a1 ≤ 126
  · by_cases c2 : n < 40
    · obtain ⟨m, rfl⟩ : ∃ m : Nat, n = m := ⟨n.toNat, by omega⟩
      refine ⟨m + 1, (uz ds m a1, m + 1), (uz mp m a1, m + 1), ?_, ?_, rfl, by omega, by omega, fun i hi => ?_⟩
      · rw [iv_X4_say]
        refine wi1 s1 c1 (t1a ⟨⟨smz (by omega) (by omega), smz (by omega) (by omega)⟩, fun _ => ?_, fun z => absurd c2 z⟩)
        rw [iv_X1_add, Int.toNat_natCast]
        exact ⟨⟨smz (by omega) (by omega), smz (by omega) (by omega)⟩, fun z => by omega, fun _ => ⟨by omega, rfl, rfl⟩⟩
      · rw [iv_X5_say, Int.toNat_natCast]
        exact in1 s1 c1 (t1a ⟨⟨smz (by omega) (by omega), smz (by omega) (by omega)⟩, fun _ => ⟨by omega, rfl, rfl⟩, fun z => by omega⟩)
      · show uz ds m a1 i = uz mp m a1 i ∧ 33 ≤ uz ds m a1 i ∧ uz ds m a1 i ≤ 126
        by_cases q : i = m
        · subst q; rw [uz_s, uz_s]; exact ⟨rfl, c1⟩
        · rw [uz_n q, uz_n q]
          have hi2 : (i : Int) < (m : Int) + 1 := hi
          exact hd i (by omega)
    · refine ⟨-4, (ds, n), (mp, n), ?_, ?_, h⟩
      · rw [iv_X4_say]
        exact wi1 s1 c1 (t1a ⟨⟨smz (by omega) (by omega), smz (by omega) (by omega)⟩, fun z => absurd z c2, fun _ => ⟨rfl, rfl⟩⟩)
      · rw [iv_X5_say]
        exact in1 s1 c1 (t1a ⟨⟨smz (by omega) (by omega), smz (by omega) (by omega)⟩, fun z => absurd (by omega) z, fun _ => ⟨rfl, rfl⟩⟩)
  · refine ⟨-2, (ds, n), (mp, n), ?_, ?_, h⟩
    · rw [iv_X4_say]
      exact wi0 s1 c1 (t0a ⟨rfl, rfl⟩)
    · rw [iv_X5_say]
      exact in0 s1 c1 (t0a ⟨rfl, rfl⟩)
theorem core_wipe {ds mp : Nat → Int} {n k : Int} (h : PD ds n mp k) : ∃ ρ U W, iv_X4_wipe n (fun r u => r = ρ ∧ u = U) ∧ iv_X5_wipe k (fun r u => r = ρ ∧ u = W) ∧ PD ds U mp W := by
  obtain ⟨e, b0, b1, hd⟩ := h
  subst e
  exact ⟨n, 0, 0, ⟨rfl, rfl⟩, ⟨rfl, rfl⟩, rfl, by omega, by omega, fun i hi => by omega⟩
/-- a sign can stand at its place -/
def CS (f : Nat → Int) (k : Nat) : Prop := (k % 4 = 0 → 97 ≤ f k ∧ f k ≤ 102) ∧ (k % 4 = 1 → 97 ≤ f k ∧ f k ≤ 102 ∧ f k ≠ f (k - 1)) ∧ (k % 4 = 2 → 49 ≤ f k ∧ f k ≤ 54) ∧ (k % 4 = 3 → 49 ≤ f k ∧ f k ≤ 52)
theorem cs_C {f : Nat → Int} {k : Nat} (hk : k < 40) (hb : ∀ i, i ≤ k → 33 ≤ f i ∧ f i ≤ 126) {post : Int → Unit → Prop} (h1 : CS f k → post 1 ()) (h0 : ¬ CS f k → post 0 ()) : iv_X1_canStand k f post := by
  have b := hb k (Nat.le_refl _)
  rw [iv_X1_canStand, Int.toNat_natCast]
  refine ⟨by omega, fun x hx => ⟨by unfold zn; omega, fun w hw => ⟨smz (by omega) (by omega), fun c => ?_, fun c => ?_, fun c => ?_, fun c => ?_⟩⟩⟩
  · by_cases q : 0 ≤ x - 97 ∧ x - 97 ≤ 5
    · exact rq1 (smz (by omega) (by omega)) q ⟨Or.inr rfl, h1 ⟨fun _ => by omega, fun z => by omega, fun z => by omega, fun z => by omega⟩⟩
    · exact rq0 (smz (by omega) (by omega)) q ⟨Or.inl rfl, h0 (fun z => by have := z.1 (by omega); omega)⟩
  · have e : ((k : Int) - 1).toNat = k - 1 := by omega
    rw [e]
    have b2 := hb (k - 1) (by omega)
    by_cases q : 0 ≤ x - 97 ∧ x - 97 ≤ 5
    · refine rq1 (smz (by omega) (by omega)) q (t1b ⟨by omega, ⟨smz (by omega) (by omega), smz (by omega) (by omega)⟩, fun z => h0 (fun y => ?_), fun z => h1 ⟨fun y => by omega, fun y => ⟨by omega, by omega, by omega⟩, fun y => by omega, fun y => by omega⟩⟩)
      have := (y.2.1 (by omega)).2.2
      omega
    · exact rq0 (smz (by omega) (by omega)) q (t0b (h0 (fun z => by have := z.2.1 (by omega); omega)))
  · by_cases q : 1 ≤ x - 48 ∧ x - 48 ≤ 6
    · exact wi1 (smz (by omega) (by omega)) q ⟨Or.inr rfl, h1 ⟨fun z => by omega, fun z => by omega, fun z => by omega, fun z => by omega⟩⟩
    · exact wi0 (smz (by omega) (by omega)) q ⟨Or.inl rfl, h0 (fun z => by have := z.2.2.1 (by omega); omega)⟩
  · by_cases q : 1 ≤ x - 48 ∧ x - 48 ≤ 4
    · exact wi1 (smz (by omega) (by omega)) q ⟨Or.inr rfl, h1 ⟨fun z => by omega, fun z => by omega, fun z => by omega, fun z => by omega⟩⟩
    · exact wi0 (smz (by omega) (by omega)) q ⟨Or.inl rfl, h0 (fun z => by have := z.2.2.2 (by omega); omega)⟩
theorem cs_M {f : Nat → Int} {k : Nat} (hk : k < 40) (hb : ∀ i, i ≤ k → 33 ≤ f i ∧ f i ≤ 126) {post : Int → Unit → Prop} (h1 : CS f k → post 1 ()) (h0 : ¬ CS f k → post 0 ()) : iv_X5_canStand k f post := by
  have b := hb k (Nat.le_refl _)
  rw [iv_X5_canStand, Int.toNat_natCast]
  refine ⟨by unfold zn; omega, fun w hw => ⟨smz (by omega) (by omega), fun c => ⟨by omega, ?_⟩, fun c => ⟨by omega, ?_⟩, fun c => ⟨by omega, ?_⟩, fun c => ⟨by omega, ?_⟩⟩⟩
  · by_cases q : 97 ≤ f k ∧ f k ≤ 102
    · exact in1 (smz (by omega) (by omega)) q ⟨Or.inr rfl, h1 ⟨fun _ => by omega, fun z => by omega, fun z => by omega, fun z => by omega⟩⟩
    · exact in0 (smz (by omega) (by omega)) q ⟨Or.inl rfl, h0 (fun z => by have := z.1 (by omega); omega)⟩
  · have e : ((k : Int) - 1).toNat = k - 1 := by omega
    rw [e]
    have b2 := hb (k - 1) (by omega)
    by_cases q : 97 ≤ f k ∧ f k ≤ 102
    · refine in1 (smz (by omega) (by omega)) q (t1b ⟨by omega, by omega, ⟨smz (by omega) (by omega), smz (by omega) (by omega)⟩, fun z => h0 (fun y => ?_), fun z => h1 ⟨fun y => by omega, fun y => ⟨by omega, by omega, by omega⟩, fun y => by omega, fun y => by omega⟩⟩)
      have := (y.2.1 (by omega)).2.2
      omega
    · exact in0 (smz (by omega) (by omega)) q (t0b (h0 (fun z => by have := z.2.1 (by omega); omega)))
  · by_cases q : 49 ≤ f k ∧ f k ≤ 54
    · exact in1 (smz (by omega) (by omega)) q ⟨Or.inr rfl, h1 ⟨fun z => by omega, fun z => by omega, fun z => by omega, fun z => by omega⟩⟩
    · exact in0 (smz (by omega) (by omega)) q ⟨Or.inl rfl, h0 (fun z => by have := z.2.2.1 (by omega); omega)⟩
  · by_cases q : 49 ≤ f k ∧ f k ≤ 52
    · exact in1 (smz (by omega) (by omega)) q ⟨Or.inr rfl, h1 ⟨fun z => by omega, fun z => by omega, fun z => by omega, fun z => by omega⟩⟩
    · exact in0 (smz (by omega) (by omega)) q ⟨Or.inl rfl, h0 (fun z => by have := z.2.2.2 (by omega); omega)⟩
/-- FAULT -/
noncomputable def flt (f : Nat → Int) (n : Nat) : Int := if 0 ≤ fl (fun k => ¬ CS f k) n then fl (fun k => ¬ CS f k) n else if n % 4 = 0 then -6 else n
theorem flt_all {f : Nat → Int} {n : Nat} (h : ∀ k, k < n → CS f k) : flt f n = if n % 4 = 0 then (-6 : Int) else (n : Int) := by
  unfold flt
  rw [fl_none (fun p hp z => z (h p hp)), if_neg (by omega)]
theorem flt_at {f : Nat → Int} {n k : Nat} (hk : k < n) (h : ∀ j, j < k → CS f j) (hn : ¬ CS f k) : flt f n = k := by
  unfold flt
  have := fl_eq (c := fun k => ¬ CS f k) (p := k) (d := n - (k + 1)) hn (fun q hq z => z (h q hq))
  rw [show k + 1 + (n - (k + 1)) = n by omega] at this
  rw [this, if_pos (by omega)]
theorem flt_b (f : Nat → Int) (n : Nat) : (flt f n = -6 ∧ n % 4 = 0 ∧ ∀ k, k < n → CS f k) ∨ (0 ≤ flt f n ∧ flt f n ≤ n) := by
  rcases fl_spec (c := fun k => ¬ CS f k) n with ⟨a, b⟩ | ⟨p, a, b, c, d⟩
  · have hall : ∀ k, k < n → CS f k := fun k hk => by
      by_cases q : CS f k
      · exact q
      · exact absurd q (b k hk)
    rw [flt_all hall]
    by_cases q : n % 4 = 0
    · rw [if_pos q]; exact Or.inl ⟨rfl, q, hall⟩
    · rw [if_neg q]; exact Or.inr ⟨by omega, by omega⟩
  · refine Or.inr ?_
    unfold flt
    rw [a, if_pos (by omega)]
    omega
theorem flt_cg {f g : Nat → Int} {n : Nat} (h : ∀ i, i < n → f i = g i) : flt f n = flt g n := by
  have e : fl (fun k => ¬ CS f k) n = fl (fun k => ¬ CS g k) n := fl_congr (fun p hp => by
    unfold CS
    rw [h p hp, h (p - 1) (by omega)])
  unfold flt
  rw [e]
theorem sp_faultC {f : Nat → Int} {n : Nat} (hn : n ≤ 40) (hb : ∀ i, i < n → 33 ≤ f i ∧ f i ≤ 126) {post : Int → Unit → Prop} (h : post (flt f n) ()) : iv_X1_faultPlace f n post := by
  rw [iv_X1_faultPlace]
  have key : ∀ (d k : Nat), k + d = n → (∀ j, j < k → CS f j) → iv_X1_faultPlace_L2 (((zn (n : Int)) ∧ ((sm ((n : Int) - (n : Int) / 4 * 4) ∧ sm 0) ∧ ((¬ ((n : Int) - (n : Int) / 4 * 4) = 0 → post n ()) ∧ (((n : Int) - (n : Int) / 4 * 4) = 0 → post (-6) ()))))) post f n (d + 1) k := by
    intro d
    induction d with
    | zero =>
      intro k hk hj
      rw [iv_X1_faultPlace_L2]
      have : k = n := by omega
      subst this
      rw [flt_all hj] at h
      refine ⟨⟨smz (by omega) (by omega), smz (by omega) (by omega)⟩, fun _ => ⟨by unfold zn; omega, ⟨smz (by omega) (by omega), sm0⟩, fun c => ?_, fun c => ?_⟩, fun c => absurd (by omega) c⟩
      · rw [if_neg (by omega)] at h; exact h
      · rw [if_pos (by omega)] at h; exact h
    | succ d ih =>
      intro k hk hj
      rw [iv_X1_faultPlace_L2]
      refine ⟨⟨smz (by omega) (by omega), smz (by omega) (by omega)⟩, fun c => by omega, fun _ => cs_C (by omega) (fun i hi => hb i (by omega)) (fun c => t1a (fun x hx => ?_)) (fun c => t0a ?_)⟩
      · subst hx
        refine ih (k + 1) (by omega) (fun j hj2 => ?_)
        by_cases q : j = k
        · subst q; exact c
        · exact hj j (by omega)
      · rw [flt_at (by omega) hj c] at h; exact h
  exact ⟨n + 1, key n 0 (by omega) (fun j hj => absurd hj (Nat.not_lt_zero _))⟩
theorem sp_faultM {f : Nat → Int} {n : Nat} (hn : n ≤ 40) (hb : ∀ i, i < n → 33 ≤ f i ∧ f i ≤ 126) {post : Int → Unit → Prop} (h : post (flt f n) ()) : iv_X5_fault f n post := by
  rw [iv_X5_fault]
  have key : ∀ (d k : Nat), k + d = n → (∀ j, j < k → CS f j) → iv_X5_fault_L2 (((zn (n : Int)) ∧ ((sm ((n : Int) - (n : Int) / 4 * 4) ∧ sm 0) ∧ ((¬ ((n : Int) - (n : Int) / 4 * 4) = 0 → post n ()) ∧ (((n : Int) - (n : Int) / 4 * 4) = 0 → post (-6) ()))))) post f n (d + 1) k := by
    intro d
    induction d with
    | zero =>
      intro k hk hj
      rw [iv_X5_fault_L2]
      have : k = n := by omega
      subst this
      rw [flt_all hj] at h
      refine ⟨⟨smz (by omega) (by omega), smz (by omega) (by omega)⟩, fun _ => ⟨by unfold zn; omega, ⟨smz (by omega) (by omega), sm0⟩, fun c => ?_, fun c => ?_⟩, fun c => absurd (by omega) c⟩
      · rw [if_neg (by omega)] at h; exact h
      · rw [if_pos (by omega)] at h; exact h
    | succ d ih =>
      intro k hk hj
      rw [iv_X5_fault_L2]
      refine ⟨⟨smz (by omega) (by omega), smz (by omega) (by omega)⟩, fun c => by omega, fun _ => cs_M (by omega) (fun i hi => hb i (by omega)) (fun c => t1a (fun x hx => ?_)) (fun c => t0a ?_)⟩
      · subst hx
        refine ih (k + 1) (by omega) (fun j hj2 => ?_)
        by_cases q : j = k
        · subst q; exact c
        · exact hj j (by omega)
      · rw [flt_at (by omega) hj c] at h; exact h
  exact ⟨n + 1, key n 0 (by omega) (fun j hj => absurd hj (Nat.not_lt_zero _))⟩
theorem core_fault {ds mp : Nat → Int} {n k : Int} (h : PD ds n mp k) : ∃ ρ, iv_X4_fault ds n (fun r u => r = ρ ∧ u = ()) ∧ iv_X5_fault mp k (fun r u => r = ρ ∧ u = ()) := by
  obtain ⟨e, b0, b1, hd⟩ := h
  subst e
  obtain ⟨m, rfl⟩ : ∃ m : Nat, n = m := ⟨n.toNat, by omega⟩
  refine ⟨flt ds m, ?_, ?_⟩
  · rw [iv_X4_fault]
    exact sp_faultC (by omega) (fun i hi => (hd i (by omega)).2) ⟨rfl, rfl⟩
  · exact sp_faultM (by omega) (fun i hi => by rw [← (hd i (by omega)).1]; exact (hd i (by omega)).2) ⟨(flt_cg (fun i hi => (hd i (by omega)).1)).symm, rfl⟩
section READ
variable {pe ar : Nat → Int} {sr : Int}
theorem read_loop {ds mp : Nat → Int} {n : Nat} (hn : n ≤ 40) (h4 : n % 4 = 0) (hd : ∀ i, i < n → ds i = mp i ∧ 33 ≤ ds i ∧ ds i ≤ 126) (hcs : ∀ k, k < n → CS ds k) : ∀ (d i : Nat) (ps : Int) (qf qt qw ql qs S : Nat → Int), 4 * (i + d) = n → PI pe ar sr ps qf qt qw ql qs S → S 68 + d ≤ 10 →
    ∃ (U : Int × (Nat → Int) × (Nat → Int) × (Nat → Int) × (Nat → Int) × (Nat → Int)) (W : Nat → Int), (∀ (K : Int → (Nat → Int) → (Nat → Int) → (Nat → Int) → (Nat → Int) → (Nat → Int) → Prop), K U.1 U.2.1 U.2.2.1 U.2.2.2.1 U.2.2.2.2.1 U.2.2.2.2.2 → iv_X1_moveInto_L2 K ds n (d + 1) ((4 * i : Nat) : Int) ps qf qt qw ql qs) ∧ (∀ K : (Nat → Int) → Prop, K W → iv_X5_read_L31 K mp n (d + 1) ((4 * i : Nat) : Int) S) ∧ PI pe ar sr U.1 U.2.1 U.2.2.1 U.2.2.2.1 U.2.2.2.2.1 U.2.2.2.2.2 W := by
  intro d
  induction d with
  | zero =>
    intro i ps qf qt qw ql qs S hi h hs
    refine ⟨(ps, qf, qt, qw, ql, qs), S, fun K hK => ?_, fun K hK => ?_, h⟩
    · rw [iv_X1_moveInto_L2]
      exact ⟨⟨smz (by omega) (by omega), smz (by omega) (by omega)⟩, fun _ => hK, fun c => absurd (by omega) c⟩
    · rw [iv_X5_read_L31]
      exact ⟨⟨smz (by omega) (by omega), smz (by omega) (by omega)⟩, fun _ => hK, fun c => absurd (by omega) c⟩
  | succ d ih =>
    intro i ps qf qt qw ql qs S hi h hs
    have hps : ps = S 68 := h.2.1.2.2.1
    have b0 := h.1.1.2.1
    obtain ⟨p, hp⟩ : ∃ p : Nat, S 68 = p := ⟨(S 68).toNat, by omega⟩
    have g0 := (hcs (4 * i) (by omega)).1 (by omega)
    have g1 := (hcs (4 * i + 1) (by omega)).2.1 (by omega)
    have g2 := (hcs (4 * i + 2) (by omega)).2.2.1 (by omega)
    have g3 := (hcs (4 * i + 3) (by omega)).2.2.2 (by omega)
    rw [show 4 * i + 1 - 1 = 4 * i by omega] at g1
    have hPI := PI_add h hp (by omega) (a := ds (4 * i) - 97) (b := ds (4 * i + 1) - 97) (c := ds (4 * i + 2) - 48) (d := ds (4 * i + 3) - 48) (by omega) (by omega) (by omega) (by omega) (by omega)
    have h68 : addS S p (ds (4 * i) - 97) (ds (4 * i + 1) - 97) (ds (4 * i + 2) - 48) (ds (4 * i + 3) - 48) 68 = S 68 + 1 := by
      have := hPI.2.1.2.2.1
      omega
    obtain ⟨U, W, u1, u2, u3⟩ := ih (i + 1) (ps + 1) _ _ _ _ _ _ (by omega) hPI (by rw [h68]; omega)
    refine ⟨U, W, fun K hK => ?_, fun K hK => ?_, u3⟩
    · rw [iv_X1_moveInto_L2, Int.toNat_natCast, show (((4 * i : Nat) : Int) + 1).toNat = 4 * i + 1 by omega, show (((4 * i : Nat) : Int) + 2).toNat = 4 * i + 2 by omega, show (((4 * i : Nat) : Int) + 3).toNat = 4 * i + 3 by omega]
      refine ⟨⟨smz (by omega) (by omega), smz (by omega) (by omega)⟩, fun c => by omega, fun _ => ⟨by omega, by omega, by omega, by omega, core_addC (p := p) (by omega) (by omega) (fun x hx => ?_)⟩⟩
      rw [hx, show ((4 * i : Nat) : Int) + 4 = ((4 * (i + 1) : Nat) : Int) by omega]
      exact u1 K hK
    · rw [iv_X5_read_L31, Int.toNat_natCast, show (((4 * i : Nat) : Int) + 1).toNat = 4 * i + 1 by omega, show (((4 * i : Nat) : Int) + 2).toNat = 4 * i + 2 by omega, show (((4 * i : Nat) : Int) + 3).toNat = 4 * i + 3 by omega]
      rw [← (hd (4 * i) (by omega)).1, ← (hd (4 * i + 1) (by omega)).1, ← (hd (4 * i + 2) (by omega)).1, ← (hd (4 * i + 3) (by omega)).1]
      refine ⟨⟨smz (by omega) (by omega), smz (by omega) (by omega)⟩, fun c => by omega, fun _ => ⟨by omega, by omega, by omega, by omega, core_addM (p := p) hp (by omega) (fun x hx => ?_)⟩⟩
      rw [hx, show ((4 * i : Nat) : Int) + 4 = ((4 * (i + 1) : Nat) : Int) by omega]
      exact u2 K hK
theorem core_read {ps : Int} {qf qt qw ql qs S ds mp : Nat → Int} {n k : Int} (h : PI pe ar sr ps qf qt qw ql qs S) (hP : PD ds n mp k) : ∃ ρ U W, iv_X4_read ps qf qt qw ql qs ds n (fun r u => r = ρ ∧ u = U) ∧ iv_X5_read S mp k (fun r u => r = ρ ∧ u = W) ∧ PI pe ar sr U.1 U.2.1 U.2.2.1 U.2.2.2.1 U.2.2.2.2.1 U.2.2.2.2.2.1 W.1 ∧ PD ds U.2.2.2.2.2.2 mp W.2 := by
  have hP2 := hP
  obtain ⟨e, b0, b1, hd⟩ := hP2
  subst e
  obtain ⟨m, rfl⟩ : ∃ m : Nat, n = m := ⟨n.toNat, by omega⟩
  have hps : ps = S 68 := h.2.1.2.2.1
  have c0 := h.1.1.2.1
  have c1 := h.1.1.2.2.1
  have ecg : flt mp m = flt ds m := (flt_cg (fun i hi => (hd i (by omega)).1)).symm
  have hm : m ≤ 40 := by omega
  have hdb : ∀ i, i < m → 33 ≤ ds i ∧ ds i ≤ 126 := fun i hi => (hd i (by omega)).2
  have hmb : ∀ i, i < m → 33 ≤ mp i ∧ mp i ≤ 126 := fun i hi => by rw [← (hd i (by omega)).1]; exact (hd i (by omega)).2
  rcases flt_b ds m with ⟨f1, f2, f3⟩ | ⟨f1, f2⟩
  · by_cases q : S 68 + m / 4 ≤ 10
    · obtain ⟨U, W, u1, u2, u3⟩ := read_loop hm f2 (fun i hi => hd i (by omega)) f3 (m / 4) 0 ps qf qt qw ql qs S (by omega) h (by omega)
      refine ⟨U.1, (U.1, U.2.1, U.2.2.1, U.2.2.2.1, U.2.2.2.2.1, U.2.2.2.2.2, 0), (W, 0), ?_, ?_, u3, rfl, by show (0 : Int) ≤ 0; omega, by show (0 : Int) ≤ 40; omega, fun i hi => by have : (i : Int) < 0 := hi; omega⟩
      · rw [iv_X4_read]
        refine sp_faultC hm hdb ?_
        rw [f1]
        refine ⟨⟨smz (by omega) (by omega), smz (by omega) (by omega)⟩, fun _ => ⟨by unfold zn; omega, ⟨smz (by omega) (by omega), smz (by omega) (by omega)⟩, fun _ => ?_, fun z => absurd (by omega) z⟩, fun z => absurd rfl z⟩
        rw [iv_X1_moveInto]
        exact ⟨m / 4 + 1, u1 _ ⟨rfl, rfl⟩⟩
      · rw [iv_X5_read]
        refine sp_faultM hm hmb ?_
        rw [ecg, f1, iv_X5_many]
        refine ⟨⟨smz (by omega) (by omega), sm0⟩, fun _ => ⟨by unfold zn; omega, ⟨smz (by omega) (by omega), smz (by omega) (by omega)⟩, fun _ => ⟨m / 4 + 1, u2 _ ?_⟩, fun z => absurd (by omega) z⟩, fun z => absurd (by omega) z⟩
        show iv_X5_many W _
        rw [iv_X5_many]
        exact ⟨u3.2.1.2.2.1.symm, rfl⟩
    · refine ⟨-4, (ps, qf, qt, qw, ql, qs, m), (S, m), ?_, ?_, h, hP⟩
      · rw [iv_X4_read]
        refine sp_faultC hm hdb ?_
        rw [f1]
        exact ⟨⟨smz (by omega) (by omega), smz (by omega) (by omega)⟩, fun _ => ⟨by unfold zn; omega, ⟨smz (by omega) (by omega), smz (by omega) (by omega)⟩, fun z => absurd z (by omega), fun _ => ⟨rfl, rfl⟩⟩, fun z => absurd rfl z⟩
      · rw [iv_X5_read]
        refine sp_faultM hm hmb ?_
        rw [ecg, f1, iv_X5_many]
        exact ⟨⟨smz (by omega) (by omega), sm0⟩, fun _ => ⟨by unfold zn; omega, ⟨smz (by omega) (by omega), smz (by omega) (by omega)⟩, fun z => absurd z (by omega), fun _ => ⟨rfl, rfl⟩⟩, fun z => absurd (by omega) z⟩
  · refine ⟨-7, (ps, qf, qt, qw, ql, qs, m), (S, m), ?_, ?_, h, hP⟩
    · rw [iv_X4_read]
      refine sp_faultC hm hdb ?_
      exact ⟨⟨smz (by omega) (by omega), smz (by omega) (by omega)⟩, fun z => by omega, fun _ => ⟨rfl, rfl⟩⟩
    · rw [iv_X5_read]
      refine sp_faultM hm hmb ?_
      rw [ecg]
      exact ⟨⟨smz (by omega) (by omega), sm0⟩, fun z => by omega, fun _ => ⟨rfl, rfl⟩⟩
end READ
