/-! RUSH tick by tick (pure), and the class's -/
abbrev PS2 := (Nat → Int) × (Nat → Int)
def ar1 (t : Nat) (s : PS2) (r : Nat) : PS2 := (uz s.1 r (s.1 r + s.2 (5 * r + t % 5)), uz s.2 (5 * r + t % 5) 0)
def arz (t : Nat) (s : PS2) : Nat → PS2
  | 0 => s
  | r + 1 => ar1 t (arz t s r) r
noncomputable def lv1 (S : Nat → Int) (t : Nat) (s : PS2) (r : Nat) : PS2 :=
  if fpz S t r < 0 then s else
    (uz s.1 r (s.1 r - (if S (38 + (fpz S t r).toNat) < s.1 r then S (38 + (fpz S t r).toNat) else s.1 r)),
     uz s.2 (5 * (S (28 + (fpz S t r).toNat)).toNat + (t + (S (48 + (fpz S t r).toNat)).toNat) % 5) (s.2 (5 * (S (28 + (fpz S t r).toNat)).toNat + (t + (S (48 + (fpz S t r).toNat)).toNat) % 5) + (if S (38 + (fpz S t r).toNat) < s.1 r then S (38 + (fpz S t r).toNat) else s.1 r)))
noncomputable def lvz (S : Nat → Int) (t : Nat) (s : PS2) : Nat → PS2
  | 0 => s
  | r + 1 => lv1 S t (lvz S t s r) r
noncomputable def tkz (S : Nat → Int) : Nat → PS2
  | 0 => (S, fun _ => 0)
  | t + 1 => lvz S t (arz t (tkz S t) 6) 6
def GD (s : PS2) : Prop := (∀ r, r < 6 → 0 ≤ s.1 r) ∧ (∀ i, i < 30 → 0 ≤ s.2 i) ∧ sg s.1 6 + sg s.2 30 ≤ 180
theorem sg_zero : ∀ n, sg (fun _ => 0) n = 0
  | 0 => rfl
  | n + 1 => by
    show sg (fun _ => 0) n + 0 = 0
    rw [sg_zero n]; rfl
theorem GD.le {s : PS2} (h : GD s) {r : Nat} (hr : r < 6) : 0 ≤ s.1 r ∧ s.1 r ≤ 180 := by
  obtain ⟨a, b, c⟩ := h
  have h1 := sg_ge_one (f := s.1) hr a
  have h2 := sg_nonneg b
  have := a r hr
  omega
theorem GD.le2 {s : PS2} (h : GD s) {i : Nat} (hi : i < 30) : 0 ≤ s.2 i ∧ s.2 i ≤ 180 := by
  obtain ⟨a, b, c⟩ := h
  have h1 := sg_ge_one (f := s.2) hi b
  have h2 := sg_nonneg a
  have := b i hi
  omega
theorem sg_uz {f : Nat → Int} {k n : Nat} {z : Int} (h : k < n) : sg (uz f k z) n = sg f n + (z - f k) := by
  have := sg_set (f := f) (g := uz f k z) h (fun i _ hne => uz_n hne)
  rw [uz_s] at this
  exact this
theorem GD.mv {s : PS2} (h : GD s) {r i : Nat} (hr : r < 6) (hi : i < 30) {d : Int} (h1 : 0 ≤ s.1 r + d) (h2 : 0 ≤ s.2 i - d) {y z : Int} (hy : y = s.1 r + d) (hz : z = s.2 i - d) : GD (uz s.1 r y, uz s.2 i z) := by
  obtain ⟨a, b, c⟩ := h
  subst hy hz
  refine ⟨fun k hk => ?_, fun k hk => ?_, ?_⟩
  · by_cases q : k = r
    · subst q; show 0 ≤ uz _ _ _ _; rw [uz_s]; exact h1
    · show 0 ≤ uz _ _ _ _; rw [uz_n q]; exact a k hk
  · by_cases q : k = i
    · subst q; show 0 ≤ uz _ _ _ _; rw [uz_s]; exact h2
    · show 0 ≤ uz _ _ _ _; rw [uz_n q]; exact b k hk
  · show sg (uz _ _ _) 6 + sg (uz _ _ _) 30 ≤ 180
    rw [sg_uz hr, sg_uz hi]; omega
theorem GD.ar {t : Nat} {s : PS2} (h : GD s) : ∀ {r : Nat}, r ≤ 6 → GD (arz t s r)
  | 0, _ => h
  | r + 1, hr => by
    have ih := GD.ar (t := t) h (r := r) (by omega)
    have b1 := ih.le (r := r) (by omega)
    have b2 := ih.le2 (i := 5 * r + t % 5) (by omega)
    exact ih.mv (d := (arz t s r).2 (5 * r + t % 5)) (by omega) (by omega) (by omega) (by omega) rfl (by omega)
/-- a passage that is gone by -/
theorem fpz_pos {S : Nat → Int} (hPV : PV S) {t r : Nat} (h : ¬ fpz S t r < 0) : ∃ p : Nat, fpz S t r = p ∧ (p : Int) < S 68 ∧ p < 10 := by
  rcases fl_spec (c := cF S t r) (S 68).toNat with ⟨a, b⟩ | ⟨p, a, b, c, d⟩
  · exact absurd (show fpz S t r < 0 by unfold fpz; omega) h
  · have := hPV.2.1
    have := hPV.2.2.1
    exact ⟨p, a, by omega, by omega⟩
theorem GD.lone {S : Nat → Int} (hPV : PV S) {t : Nat} {s : PS2} (h : GD s) {r : Nat} (hr : r < 6) : GD (lv1 S t s r) := by
  unfold lv1
  by_cases q : fpz S t r < 0
  · rw [if_pos q]; exact h
  · rw [if_neg q]
    obtain ⟨p, e, hp, hp10⟩ := fpz_pos hPV q
    rw [e, Int.toNat_natCast]
    have v := hPV.2.2.2 p hp
    have b1 := h.le hr
    have b2 := h.le2 (i := 5 * (S (28 + p)).toNat + (t + (S (48 + p)).toNat) % 5) (by omega)
    by_cases c : S (38 + p) < s.1 r
    · rw [if_pos c]
      exact h.mv (d := - S (38 + p)) hr (by omega) (by omega) (by omega) (by omega) (by omega)
    · rw [if_neg c]
      exact h.mv (d := - s.1 r) hr (by omega) (by omega) (by omega) (by omega) (by omega)
theorem GD.lv {S : Nat → Int} (hPV : PV S) {t : Nat} {s : PS2} (h : GD s) : ∀ {r : Nat}, r ≤ 6 → GD (lvz S t s r)
  | 0, _ => h
  | r + 1, hr => GD.lone hPV (GD.lv hPV h (r := r) (by omega)) (by omega)
theorem GD.tk {S : Nat → Int} (hPV : PV S) : ∀ t, GD (tkz S t)
  | 0 => ⟨fun r hr => (hPV.1 r hr).1, fun i _ => Int.le_refl _, by
      show sg S 6 + sg (fun _ => 0) 30 ≤ 180
      rw [sg_zero]; have := hPV.sum; omega⟩
  | t + 1 => GD.lv hPV (GD.ar (GD.tk hPV t) (Nat.le_refl _)) (Nat.le_refl _)
/-- who is in a safe room stays there -/
theorem lv_safe {S : Nat → Int} {t : Nat} {s : PS2} {k : Nat} (h : sfS S k = true) : ∀ r, (lvz S t s r).1 k = s.1 k
  | 0 => rfl
  | r + 1 => by
    show (lv1 S t (lvz S t s r) r).1 k = s.1 k
    unfold lv1
    by_cases q : fpz S t r < 0
    · rw [if_pos q]; exact lv_safe h r
    · rw [if_neg q]
      show uz _ _ _ _ = _
      rw [uz_n (fun z => q (by rw [← z, fpz_safe h]; omega))]
      exact lv_safe h r
def szs (S h : Nat → Int) : Int := sg (fun r => if sfS S r = true then h r else 0) 6
theorem szs_congr {S h h' : Nat → Int} (hc : ∀ r, r < 6 → sfS S r = true → h r = h' r) : szs S h = szs S h' := sg_congr (fun r hr => by
  by_cases q : sfS S r = true
  · simp only [if_pos q]; exact hc r hr q
  · simp only [if_neg q])
theorem szs_b {S : Nat → Int} {s : PS2} (h : GD s) : 0 ≤ szs S s.1 ∧ szs S s.1 ≤ 180 := by
  have a : 0 ≤ szs S s.1 := sg_nonneg (fun r hr => by
    by_cases q : sfS S r = true
    · simp only [if_pos q]; exact h.1 r hr
    · simp only [if_neg q]; omega)
  have b : szs S s.1 ≤ sg s.1 6 := sg_le (fun r hr => by
    have := h.1 r hr
    by_cases q : sfS S r = true
    · simp only [if_pos q]; omega
    · simp only [if_neg q]; omega)
  have := sg_nonneg h.2.1
  have := h.2.2
  omega
/-- the class's rows -/
def CR (th ta : Nat → Int) (s : PS2) : Prop := (∀ r, r < 6 → th r = s.1 r) ∧ ∀ r, r < 6 → ∀ j, j < 5 → ta (j * 6 + r) = s.2 (5 * r + j)
section CRU
variable {S : Nat → Int} {t : Nat} {s : PS2}
theorem CR.upd {th ta : Nat → Int} (h : CR th ta s) {r k j : Nat} (hr : r < 6) (hk : k < 6) (hj : j < 5) {y y' z z' : Int} (hy : y = y') (hz : z = z') : CR (uz th r y) (uz ta (j * 6 + k) z) (uz s.1 r y', uz s.2 (5 * k + j) z') := by
  obtain ⟨a, b⟩ := h
  subst hy hz
  refine ⟨fun q hq => ?_, fun q hq i hi => ?_⟩
  · show uz _ _ _ _ = uz _ _ _ _
    by_cases e : q = r
    · subst e; rw [uz_s, uz_s]
    · rw [uz_n e, uz_n e]; exact a q hq
  · show uz _ _ _ _ = uz _ _ _ _
    by_cases e : q = k ∧ i = j
    · rw [e.1, e.2, uz_s, uz_s]
    · rw [uz_n (by omega), uz_n (by omega)]; exact b q hq i hi
theorem sp_arrive {th ta : Nat → Int} (ht : t ≤ 200) (hG : GD s) (h : CR th ta s) {post : PS2 → Prop} (hp : ∀ th ta, CR th ta (arz t s 6) → post (th, ta)) : iv_X3_arrive t th ta post := by
  rw [iv_X3_arrive]
  refine ⟨by unfold zn; omega, fun x hx => ?_⟩
  have key : ∀ (d r : Nat) (th ta : Nat → Int), r + d = 6 → CR th ta (arz t s r) → iv_X3_arrive_L9 (fun a b => post (a, b)) x (d + 1) r th ta := by
    intro d
    induction d with
    | zero =>
      intro r th ta hr hc
      rw [iv_X3_arrive_L9]
      have : r = 6 := by omega
      subst this
      exact ⟨⟨smz (by omega) (by omega), smz (by omega) (by omega)⟩, fun _ => hp _ _ hc, fun c => absurd (by omega) c⟩
    | succ d ih =>
      intro r th ta hr hc
      rw [iv_X3_arrive_L9, Int.toNat_natCast, show (x + (r : Int)).toNat = t % 5 * 6 + r by omega]
      refine ⟨⟨smz (by omega) (by omega), smz (by omega) (by omega)⟩, fun c => by omega, fun _ => ⟨by omega, by omega, by omega, by omega, fun y hy => ?_⟩⟩
      subst hy
      refine ih (r + 1) _ _ (by omega) ?_
      exact hc.upd (by omega) (by omega) (by omega) (by rw [hc.1 r (by omega), hc.2 r (by omega) (t % 5) (by omega)]) rfl
  exact ⟨7, key 6 0 th ta (by omega) h⟩
theorem sp_peopleIn (hPV : PV S) {th : Nat → Int} {post : Int → Unit → Prop} (hp : post (szs S th) ()) : iv_X3_peopleIn (smS S) th post := by
  have hm := smS_b hPV
  rw [iv_X3_peopleIn]
  have key : ∀ (d r : Nat), r + d = 6 → iv_X3_peopleIn_L4 (fun k2_19 => post k2_19 ()) (smS S) th (d + 1) (sg (fun r => if sfS S r = true then th r else 0) r) r := by
    intro d
    induction d with
    | zero =>
      intro r hr
      rw [iv_X3_peopleIn_L4]
      have : r = 6 := by omega
      subst this
      exact ⟨⟨smz (by omega) (by omega), smz (by omega) (by omega)⟩, fun _ => hp, fun c => absurd (by omega) c⟩
    | succ d ih =>
      intro r hr
      rw [iv_X3_peopleIn_L4, Int.toNat_natCast]
      refine ⟨⟨smz (by omega) (by omega), smz (by omega) (by omega)⟩, fun c => by omega, fun _ => sp_isIn hm (by omega) ?_⟩
      have hi := ih (r + 1) (by omega)
      rw [show sg (fun r => if sfS S r = true then th r else 0) (r + 1) = sg (fun r => if sfS S r = true then th r else 0) r + (if sfS S r = true then th r else 0) from rfl] at hi
      rw [sfm_smS hPV]
      by_cases q : sfS S r = true
      · rw [if_pos q] at hi
        rw [if_pos q]
        refine ⟨⟨sm1, sm0⟩, fun z => absurd z (by decide), fun _ => ⟨by omega, fun x hx y hy => ?_⟩⟩
        subst hx hy
        exact hi
      · rw [if_neg q, Int.add_zero] at hi
        rw [if_neg q]
        refine ⟨⟨sm0, sm0⟩, fun _ y hy => ?_, fun z => absurd rfl z⟩
        subst hy
        exact hi
  exact ⟨7, key 6 0 (by omega)⟩
variable {pe : Nat → Int} {m P : Int} {qf qt qw ql qs : Nat → Int}
theorem sp_leaveL (hPV : PV S) (hq : PQ pe m P qf qt qw ql qs S) (ht : t ≤ 200) (hG : GD s) {th ta fp : Nat → Int} (h : CR th ta s) (hf : ∀ r, r < 6 → fp r = fpz S t r) {K : (Nat → Int) → (Nat → Int) → Prop} (hp : ∀ th ta, CR th ta (lvz S t s 6) → K th ta) : ∃ n, iv_X3_leave_L26 K t fp qt qw ql n 0 th ta := by
  have key : ∀ (d r : Nat) (th ta : Nat → Int), r + d = 6 → CR th ta (lvz S t s r) → iv_X3_leave_L26 K t fp qt qw ql (d + 1) r th ta := by
    intro d
    induction d with
    | zero =>
      intro r th ta hr hc
      rw [iv_X3_leave_L26]
      have : r = 6 := by omega
      subst this
      exact ⟨⟨smz (by omega) (by omega), smz (by omega) (by omega)⟩, fun _ => hp _ _ hc, fun c => absurd (by omega) c⟩
    | succ d ih =>
      intro r th ta hr hc
      rw [iv_X3_leave_L26, Int.toNat_natCast, hf r (by omega)]
      have hg := GD.lv hPV (t := t) hG (r := r) (by omega)
      have b1 := hg.le (r := r) (by omega)
      refine ⟨⟨smz (by omega) (by omega), smz (by omega) (by omega)⟩, fun c => by omega, fun _ => ⟨by omega, fun x hx => ?_⟩⟩
      by_cases q : fpz S t r < 0
      · have e : lvz S t s (r + 1) = lvz S t s r := by
          show lv1 S t (lvz S t s r) r = _
          unfold lv1
          rw [if_pos q]
        have hb : x = -1 := by
          rcases fl_spec (c := cF S t r) (S 68).toNat with ⟨a, b⟩ | ⟨p, a, b, c, d⟩
          · rw [hx]; exact a
          · have : fpz S t r = p := a
            omega
        refine ⟨⟨smz (by omega) (by omega), sm0⟩, fun _ y hy => ?_, fun z => absurd (by omega) z⟩
        subst hy
        exact ih (r + 1) th ta (by omega) (by rw [e]; exact hc)
      · obtain ⟨p, e, hp1, hp10⟩ := fpz_pos hPV q
        have v := hPV.2.2.2 p hp1
        have w := hq.2.2.2 p hp10
        rw [e] at hx
        subst hx
        rw [Int.toNat_natCast, w.2.1, w.2.2.1, w.2.2.2.1]
        have h1 := hc.1 r (by omega)
        refine ⟨⟨smz (by omega) (by omega), sm0⟩, fun z => absurd z (by omega), fun _ => ⟨by omega, by omega, ⟨smz (by omega) (by omega), smz (by omega) (by omega)⟩, fun n hn => ⟨by omega, by omega, by omega, by unfold zn; omega, fun x6 hx6 => ⟨by omega, by omega, by omega, fun y hy => ?_⟩⟩⟩⟩
        subst hy
        have ei : (x6 + S (28 + p)).toNat = (t + (S (48 + p)).toNat) % 5 * 6 + (S (28 + p)).toNat := by omega
        rw [ei]
        refine ih (r + 1) _ _ (by omega) ?_
        show CR _ _ (lv1 S t (lvz S t s r) r)
        unfold lv1
        rw [if_neg q, e, Int.toNat_natCast]
        have h2 := hc.2 (S (28 + p)).toNat (by omega) ((t + (S (48 + p)).toNat) % 5) (by omega)
        refine hc.upd (by omega) (by omega) (by omega) ?_ ?_
        · rw [hn, h1]
        · rw [hn, h1, h2]
  exact ⟨7, key 6 0 th ta (by omega) h⟩
/-- what distanceThrough tells -/
def dtz (S : Nat → Int) (t : Nat) (d : Nat → Int) (p : Nat) : Int := if S (58 + p) ≤ t ∨ d (S (28 + p)).toNat = 1000 then 1000 else S (48 + p) + d (S (28 + p)).toNat
theorem sp_through (hPV : PV S) (hq : PQ pe m P qf qt qw ql qs S) (ht : t ≤ 200) {d : Nat → Int} (hd : RI S d) {p : Nat} (hp : (p : Int) < S 68) {post : Int → Unit → Prop} (h : post (dtz S t d p) ()) : iv_X3_distanceThrough p t d qt ql qs post := by
  have v := hPV.2.2.2 p hp
  have hp10 : p < 10 := by have := hPV.2.2.1; omega
  have w := hq.2.2.2 p hp10
  rw [iv_X3_distanceThrough, Int.toNat_natCast, w.2.1, w.2.2.2.1, w.2.2.2.2]
  have b := hd (S (28 + p)).toNat (by omega)
  refine ⟨by omega, by omega, fun x hx => ⟨by omega, ⟨smz (by omega) (by omega), smz (by omega) (by omega)⟩, fun c => ?_, fun c => ⟨⟨smz (by omega) (by omega), smz (by omega) (by omega)⟩, fun c2 => ⟨by omega, ?_⟩, fun c2 => ?_⟩⟩⟩
  · unfold dtz at h; rw [if_pos (Or.inl c)] at h; exact h
  · unfold dtz at h; rw [if_neg (by omega)] at h; rw [hx]; exact h
  · unfold dtz at h; rw [if_pos (Or.inr (by omega))] at h; exact h
theorem dtz_rx (hPV : PV S) {d : Nat → Int} (hd : RI S d) {p : Nat} (hp : (p : Int) < S 68) : (d (S (18 + p)).toNat ≤ dtz S t d p → rx S t d p = d) ∧ (¬ d (S (18 + p)).toNat ≤ dtz S t d p → rx S t d p = uz d (S (18 + p)).toNat (dtz S t d p)) := by
  have v := hPV.2.2.2 p hp
  have b1 := hd (S (18 + p)).toNat (by omega)
  have b2 := hd (S (28 + p)).toNat (by omega)
  unfold rx dtz
  by_cases c : S (58 + p) ≤ t ∨ d (S (28 + p)).toNat = 1000
  · rw [if_pos c]
    refine ⟨fun _ => if_neg (by omega), fun z => by omega⟩
  · rw [if_neg c]
    refine ⟨fun z => if_neg (by omega), fun z => ?_⟩
    rw [if_pos, Int.add_comm]
    refine ⟨by omega, ?_, by omega⟩
    cases hs : sfS S (S (18 + p)).toNat with
    | false => rfl
    | true => have := b1.2.2 hs; omega
theorem sp_fd59 (hPV : PV S) (hq : PQ pe m P qf qt qw ql qs S) (ht : t ≤ 200) {f : Nat → Int} (hf : RI S f) {K : Int → (Nat → Int) → Prop} (hp : ∀ v d, (v = 0 ∨ v = 1) → E6 d (rr S t f (S 68).toNat) → (v = 0 → E6 d f) → K v d) :
    ∀ (n k : Nat) (v : Int) (d : Nat → Int), k + n = (S 68).toNat → (v = 0 ∨ v = 1) → E6 d (rr S t f k) → (v = 0 → E6 d f) → iv_X3_findDistances_L59 K t P qf qt ql qs (n + 1) v k d := by
  have hP : P = S 68 := hq.2.2.1
  have h0 := hPV.2.1
  have h10 := hPV.2.2.1
  intro n
  induction n with
  | zero =>
    intro k v d hk hv hd hz
    rw [iv_X3_findDistances_L59]
    have : k = (S 68).toNat := by omega
    subst this
    exact ⟨⟨smz (by omega) (by omega), smz (by omega) (by omega)⟩, fun _ => hp v d hv hd hz, fun c => absurd (by omega) c⟩
  | succ n ih =>
    intro k v d hk hv hd hz
    rw [iv_X3_findDistances_L59, Int.toNat_natCast, (hq.2.2.2 k (by omega)).1]
    have hk2 : (k : Int) < S 68 := by omega
    have vv := hPV.2.2.2 k hk2
    have hdr : RI S d := by
      intro r hr
      rw [hd r hr]
      exact rr_ri hPV hf (by omega) r hr
    have hb := hdr (S (18 + k)).toNat (by omega)
    have hstep := dtz_rx (t := t) hPV hdr hk2
    have hcg : E6 (rx S t d k) (rr S t f (k + 1)) := rx_congr hPV hk2 hd
    have hdb : 0 ≤ dtz S t d k ∧ dtz S t d k ≤ 1004 := by
      have := hdr (S (28 + k)).toNat (by omega)
      unfold dtz
      by_cases c : S (58 + k) ≤ t ∨ d (S (28 + k)).toNat = 1000
      · rw [if_pos c]; omega
      · rw [if_neg c]; omega
    refine ⟨⟨smz (by omega) (by omega), smz (by omega) (by omega)⟩, fun c => by omega, fun _ => sp_through hPV hq ht hdr hk2 ?_⟩
    refine ⟨by omega, by omega, ⟨smz (by omega) (by omega), smz (by omega) (by omega)⟩, fun c x hx => ?_, fun c => ⟨by omega, by omega, fun x hx => ?_⟩⟩
    · subst hx
      rw [hstep.1 c] at hcg
      exact ih (k + 1) v d (by omega) hv hcg hz
    · subst hx
      rw [hstep.2 c] at hcg
      exact ih (k + 1) 1 _ (by omega) (Or.inr rfl) hcg (fun z => absurd z (by decide))
theorem sp_findDistances (hPV : PV S) (hq : PQ pe m P qf qt qw ql qs S) (ht : t ≤ 200) {d : Nat → Int} {post : (Nat → Int) → Prop} (hp : ∀ d, E6 d (farz S t) → post d) : iv_X3_findDistances t d m P qf qt ql qs post := by
  have hm : m = smS S := hq.2.1
  have hmb := smS_b hPV
  have h0 := hPV.2.1
  have h10 := hPV.2.2.1
  have k43 : ∀ (n k : Nat) (v : Int) (d : Nat → Int), k + n = 6 → (v = 0 ∨ v = 1) → E6 d (itz S t k) → (v = 0 → E6 d (farz S t)) → iv_X3_findDistances_L43 (fun t_distance_55 => post t_distance_55) t P qf qt ql qs (n + 1) v k d := by
    intro n
    induction n with
    | zero =>
      intro k v d hk hv hd hz
      rw [iv_X3_findDistances_L43]
      have : k = 6 := by omega
      subst this
      exact ⟨⟨smz (by omega) (by omega), sm0⟩, fun c => hp d hd, fun c => ⟨⟨smz (by omega) (by omega), smz (by omega) (by omega)⟩, fun _ => hp d hd, fun c => absurd (by omega) c⟩⟩
    | succ n ih =>
      intro k v d hk hv hd hz
      rw [iv_X3_findDistances_L43]
      refine ⟨⟨smz (by omega) (by omega), sm0⟩, fun c => hp d (hz c), fun c => ⟨⟨smz (by omega) (by omega), smz (by omega) (by omega)⟩, fun c => by omega, fun _ => ⟨(S 68).toNat + 1, ?_⟩⟩⟩
      refine sp_fd59 hPV hq ht (f := itz S t k) (itz_ri hPV k) (fun w e hw he hz2 x hx => ?_) (S 68).toNat 0 0 d (by omega) (Or.inl rfl) hd (fun _ => hd)
      subst hx
      refine ih (k + 1) w e (by omega) hw he (fun z => ?_)
      have h1 := hz2 z
      have h2 : E6 (itz S t (k + 1)) (itz S t k) := fun r hr => by rw [← h1 r hr]; exact (he r hr).symm
      have h3 := itz_stop hPV h2 (6 - k)
      rw [show k + (6 - k) = 6 by omega] at h3
      exact fun r hr => by rw [h1 r hr]; exact (h3 r hr).symm
  have k2 : ∀ (n k : Nat) (d : Nat → Int), k + n = 6 → (∀ r, r < k → d r = f0 S r) → iv_X3_findDistances_L2 (fun t_distance_19 => (∃ n_56, iv_X3_findDistances_L43 (fun t_distance_55 => post t_distance_55) t P qf qt ql qs n_56 1 0 t_distance_19)) m (n + 1) k d := by
    intro n
    induction n with
    | zero =>
      intro k d hk hd
      rw [iv_X3_findDistances_L2]
      have : k = 6 := by omega
      subst this
      exact ⟨⟨smz (by omega) (by omega), smz (by omega) (by omega)⟩, fun _ => ⟨7, k43 6 0 1 d (by omega) (Or.inr rfl) hd (fun z => absurd z (by decide))⟩, fun c => absurd (by omega) c⟩
    | succ n ih =>
      intro k d hk hd
      rw [iv_X3_findDistances_L2, Int.toNat_natCast]
      refine ⟨⟨smz (by omega) (by omega), smz (by omega) (by omega)⟩, fun c => by omega, fun _ => sp_isIn (by omega) (by omega) ?_⟩
      rw [hm, sfm_smS hPV]
      have st : ∀ z : Int, z = f0 S k → ∀ r, r < k + 1 → uz d k z r = f0 S r := by
        intro z hz r hr
        by_cases e : r = k
        · subst e; rw [uz_s]; exact hz
        · rw [uz_n e]; exact hd r (by omega)
      rw [hm] at ih
      by_cases q : sfS S k = true
      · rw [if_pos q]
        refine ⟨⟨sm1, sm0⟩, fun z => absurd z (by decide), fun _ => ⟨by omega, fun x hx => ?_⟩⟩
        subst hx
        exact ih (k + 1) _ (by omega) (st 0 (by unfold f0; rw [if_pos q]))
      · rw [if_neg q]
        refine ⟨⟨sm0, sm0⟩, fun _ => ⟨by omega, fun x hx => ?_⟩, fun z => absurd rfl z⟩
        subst hx
        exact ih (k + 1) _ (by omega) (st 1000 (by unfold f0; rw [if_neg q]))
  rw [iv_X3_findDistances]
  exact ⟨7, k2 6 0 d (by omega) (fun r hr => absurd hr (Nat.not_lt_zero _))⟩
theorem dtz_cF (hPV : PV S) {d : Nat → Int} (hd : E6 d (farz S t)) {p : Nat} (hp : (p : Int) < S 68) {r : Nat} (hr : S (18 + p) = r) : cF S t r p ↔ (dtz S t d p ≠ 1000 ∧ dtz S t d p = d r) := by
  have v := hPV.2.2.2 p hp
  have hR := (far_ok hPV t).1
  have b1 := hR r (by omega)
  have b2 := hR (S (28 + p)).toNat (by omega)
  unfold dtz cF
  rw [hd r (by omega), hd (S (28 + p)).toNat (by omega)]
  by_cases c : S (58 + p) ≤ t ∨ farz S t (S (28 + p)).toNat = 1000
  · rw [if_pos c]
    exact ⟨fun z => by omega, fun z => absurd rfl z.1⟩
  · rw [if_neg c]
    refine ⟨fun z => by omega, fun z => ⟨hr, by omega, ?_, by omega, by omega⟩⟩
    cases hs : sfS S r with
    | false => rfl
    | true => have := b1.2.2 hs; omega
theorem sp_firstPassages (hPV : PV S) (hq : PQ pe m P qf qt qw ql qs S) (ht : t ≤ 200) {d fp : Nat → Int} (hd : E6 d (farz S t)) {post : (Nat → Int) → Prop} (hp : ∀ fp, (∀ r, r < 6 → fp r = fpz S t r) → post fp) : iv_X3_findFirstPassages t d fp P qf qt ql qs post := by
  have hP : P = S 68 := hq.2.2.1
  have h0 := hPV.2.1
  have h10 := hPV.2.2.1
  have hR := (far_ok hPV t).1
  have hdr : RI S d := fun r hr => by rw [hd r hr]; exact hR r hr
  have key : ∀ (k : Nat) (fp : Nat → Int), (k : Int) ≤ S 68 → (∀ r, r < 6 → (fp r = -1 ∧ ∀ p : Nat, k ≤ p → (p : Int) < S 68 → ¬ cF S t r p) ∨ ∃ p : Nat, fp r = p ∧ k ≤ p ∧ (p : Int) < S 68 ∧ cF S t r p ∧ ∀ q : Nat, k ≤ q → q < p → ¬ cF S t r q) → iv_X3_findFirstPassages_L15 (fun t_firstPassage_30 => post t_firstPassage_30) t d qf qt ql qs (k + 1) ((k : Int) - 1) fp := by
    intro k
    induction k with
    | zero =>
      intro fp hk hf
      rw [iv_X3_findFirstPassages_L15]
      refine ⟨⟨smz (by omega) (by omega), sm0⟩, fun _ => hp fp (fun r hr => ?_), fun c => absurd (by omega) c⟩
      rcases hf r hr with ⟨a, b⟩ | ⟨p, a, b, c, e, g⟩
      · rw [a]; exact (fl_none (fun p hp => b p (by omega) (by omega))).symm
      · have := fl_eq (d := (S 68).toNat - (p + 1)) e (fun q hq => g q (by omega) hq)
        rw [show p + 1 + ((S 68).toNat - (p + 1)) = (S 68).toNat by omega] at this
        rw [a]; exact this.symm
    | succ k ih =>
      intro fp hk hf
      have hk2 : (k : Int) < S 68 := by omega
      have vv := hPV.2.2.2 k hk2
      rw [iv_X3_findFirstPassages_L15, show (((k + 1 : Nat) : Int) - 1) = k by omega, Int.toNat_natCast, (hq.2.2.2 k (by omega)).1]
      obtain ⟨rf, hrf⟩ : ∃ r : Nat, S (18 + k) = r := ⟨(S (18 + k)).toNat, by omega⟩
      have hiff := dtz_cF hPV hd hk2 hrf
      have hdb : 0 ≤ dtz S t d k ∧ dtz S t d k ≤ 1004 := by
        have := hdr (S (28 + k)).toNat (by omega)
        unfold dtz
        by_cases c : S (58 + k) ≤ t ∨ d (S (28 + k)).toNat = 1000
        · rw [if_pos c]; omega
        · rw [if_neg c]; omega
      have hdb2 := hdr rf (by omega)
      have hno : ¬ cF S t rf k → ∀ r, r < 6 → (fp r = -1 ∧ ∀ p : Nat, k ≤ p → (p : Int) < S 68 → ¬ cF S t r p) ∨ ∃ p : Nat, fp r = p ∧ k ≤ p ∧ (p : Int) < S 68 ∧ cF S t r p ∧ ∀ q : Nat, k ≤ q → q < p → ¬ cF S t r q := by
        intro hn r hr
        have hn2 : ¬ cF S t r k := fun z => by
          have : r = rf := by have := z.1; omega
          subst this; exact hn z
        rcases hf r hr with ⟨a, b⟩ | ⟨p, a, b, c, e, g⟩
        · refine Or.inl ⟨a, fun p h1 h2 => ?_⟩
          by_cases z : p = k
          · subst z; exact hn2
          · exact b p (by omega) h2
        · refine Or.inr ⟨p, a, by omega, c, e, fun q h1 h2 => ?_⟩
          by_cases z : q = k
          · subst z; exact hn2
          · exact g q (by omega) h2
      refine ⟨⟨smz (by omega) (by omega), sm0⟩, fun c => by omega, fun _ => ⟨by omega, fun x hx => ?_⟩⟩
      rw [hrf] at hx
      subst hx
      rw [Int.toNat_natCast]
      refine sp_through hPV hq ht hdr hk2 ⟨⟨smz (by omega) (by omega), smz (by omega) (by omega)⟩, fun c y hy => ?_, fun c => ⟨by omega, ⟨smz (by omega) (by omega), smz (by omega) (by omega)⟩, fun c2 y hy => ?_, fun c2 => ⟨by omega, fun y hy => ?_⟩⟩⟩
      · have : y = (k : Int) - 1 := by omega
        subst this
        exact ih fp (by omega) (hno (fun z => (hiff.mp z).1 c))
      · have : y = (k : Int) - 1 := by omega
        subst this
        exact ih fp (by omega) (hno (fun z => c2 (hiff.mp z).2))
      · have : y = (k : Int) - 1 := by omega
        subst this
        have hc := hiff.mpr ⟨c, c2⟩
        refine ih _ (by omega) (fun r hr => ?_)
        by_cases e : r = rf
        · subst e
          exact Or.inr ⟨k, by rw [uz_s], by omega, hk2, hc, fun q h1 h2 => by omega⟩
        · rw [uz_n e]
          have hn2 : ¬ cF S t r k := fun z => e (by have := z.1; omega)
          rcases hf r hr with ⟨a, b⟩ | ⟨p, a, b, c, e, g⟩
          · refine Or.inl ⟨a, fun p h1 h2 => ?_⟩
            by_cases z : p = k
            · subst z; exact hn2
            · exact b p (by omega) h2
          · refine Or.inr ⟨p, a, by omega, c, e, fun q h1 h2 => ?_⟩
            by_cases z : q = k
            · subst z; exact hn2
            · exact g q (by omega) h2
  rw [iv_X3_findFirstPassages]
  intro x hx
  have hx2 : x = ((S 68).toNat : Int) - 1 := by omega
  subst hx2
  refine ⟨(S 68).toNat + 1, key (S 68).toNat _ (by omega) (fun r hr => Or.inl ⟨?_, fun p h1 h2 => by omega⟩)⟩
  show (if r < 6 then (-1 : Int) else fp r) = -1
  rw [if_pos hr]
theorem sp_anyShuts (hPV : PV S) (hq : PQ pe m P qf qt qw ql qs S) (ht : t ≤ 200) {post : Int → Unit → Prop} (h1 : post 1 ()) (h0 : (∀ p : Nat, (p : Int) < S 68 → S (58 + p) ≠ t) → post 0 ()) : iv_X2_anyShutsAt t P qs post := by
  have hP : P = S 68 := hq.2.2.1
  have hb0 := hPV.2.1
  have h10 := hPV.2.2.1
  have key : ∀ (n k : Nat), k + n = (S 68).toNat → (∀ p : Nat, p < k → S (58 + p) ≠ t) → iv_X2_anyShutsAt_L2 (post 0 ()) post t P qs (n + 1) k := by
    intro n
    induction n with
    | zero =>
      intro k hk hz
      rw [iv_X2_anyShutsAt_L2]
      exact ⟨⟨smz (by omega) (by omega), smz (by omega) (by omega)⟩, fun _ => h0 (fun p hp => hz p (by omega)), fun c => absurd (by omega) c⟩
    | succ n ih =>
      intro k hk hz
      have vv := hPV.2.2.2 k (by omega)
      rw [iv_X2_anyShutsAt_L2, Int.toNat_natCast, (hq.2.2.2 k (by omega)).2.2.2.2]
      refine ⟨⟨smz (by omega) (by omega), smz (by omega) (by omega)⟩, fun c => by omega, fun _ => ⟨by omega, ⟨smz (by omega) (by omega), smz (by omega) (by omega)⟩, fun c x hx => ?_, fun c => h1⟩⟩
      subst hx
      refine ih (k + 1) (by omega) (fun p hp => ?_)
      by_cases z : p = k
      · subst z; exact c
      · exact hz p (by omega)
  rw [iv_X2_anyShutsAt]
  exact ⟨(S 68).toNat + 1, key (S 68).toNat 0 (by omega) (fun p hp => absurd hp (Nat.not_lt_zero _))⟩
theorem sp_leave (hPV : PV S) (hq : PQ pe m P qf qt qw ql qs S) (ht : t ≤ 200) (hG : GD s) {th ta d fp : Nat → Int} (h : CR th ta s) (hf : 1 ≤ t → ∀ r, r < 6 → fp r = fpz S (t - 1) r) {post : ((Nat → Int) × (Nat → Int) × (Nat → Int) × (Nat → Int)) → Prop} (hp : ∀ th ta d fp, CR th ta (lvz S t s 6) → (∀ r, r < 6 → fp r = fpz S t r) → post (th, ta, d, fp)) : iv_X3_leave t th ta d fp m P qf qt qw ql qs post := by
  rw [iv_X3_leave]
  refine ⟨⟨smz (by omega) (by omega), sm0⟩, fun c => ?_, fun c => ?_⟩
  · exact sp_findDistances hPV hq ht (fun d hd => sp_firstPassages hPV hq ht hd (fun fp hfp => sp_leaveL hPV hq ht hG h hfp (fun th ta hc => hp th ta d fp hc hfp)))
  · refine sp_anyShuts hPV hq ht ⟨⟨sm1, sm0⟩, fun z => absurd z (by decide), fun _ => ?_⟩ (fun hn => ⟨⟨sm0, sm0⟩, fun _ => ?_, fun z => absurd rfl z⟩)
    · exact sp_findDistances hPV hq ht (fun d hd => sp_firstPassages hPV hq ht hd (fun fp hfp => sp_leaveL hPV hq ht hG h hfp (fun th ta hc => hp th ta d fp hc hfp)))
    · have hfp : ∀ r, r < 6 → fp r = fpz S t r := by
        intro r hr
        rw [hf (by omega) r hr]
        refine fpz_same (fun p hp => ?_)
        have := hn p (by omega)
        omega
      exact sp_leaveL hPV hq ht hG h hfp (fun th ta hc => hp th ta d fp hc hfp)
theorem CR.begin {th ta : Nat → Int} (hq : PQ pe m P qf qt qw ql qs S) : CR (va_cpy pe th 0 0 6) (fz 30 0 ta) (tkz S 0) := by
  refine ⟨fun r hr => ?_, fun r hr j hj => ?_⟩
  · rw [pk_cpy_in (by omega) (by omega)]
    show pe _ = S r
    rw [show 0 + (r - 0) = r by omega]
    exact hq.1 r hr
  · show (if j * 6 + r < 30 then (0 : Int) else _) = 0
    rw [if_pos (by omega)]
theorem sp_rush (hPV : PV S) (hq : PQ pe m P qf qt qw ql qs S) {a1 : Int} (ha : sm a1) {th ta d fp : Nat → Int} {post : Int → ((Nat → Int) × (Nat → Int) × (Nat → Int) × (Nat → Int)) → Prop} (h0 : ∀ u, ¬ (0 ≤ a1 ∧ a1 ≤ 200) → post (-2) u) (h1 : ∀ u, 0 ≤ a1 → a1 ≤ 200 → post (szs S (arz a1.toNat (tkz S a1.toNat) 6).1) u) : iv_X4_rush a1 pe m P qf qt qw ql qs th ta d fp post := by
  rw [iv_X4_rush]
  refine sp_within ha sm0 (smz (by omega) (by omega)) (fun c1 c2 => ⟨⟨sm1, sm0⟩, fun _ => ?_, fun z => absurd z (by decide)⟩) (fun c => ⟨⟨sm0, sm0⟩, fun z => absurd rfl z, fun _ => h0 _ c⟩)
  rw [iv_X3_begin]
  obtain ⟨T, rfl⟩ : ∃ T : Nat, a1 = T := ⟨a1.toNat, by omega⟩
  rw [Int.toNat_natCast] at h1
  have hm : m = smS S := hq.2.1
  have key : ∀ (n t : Nat) (th ta d fp : Nat → Int), t + n = T → CR th ta (tkz S t) → (1 ≤ t → ∀ r, r < 6 → fp r = fpz S (t - 1) r) → iv_X4_rush_L27 (fun t_here_28 t_arriving_29 t_distance_30 t_firstPassage_31 => (iv_X3_arrive T t_here_28 t_arriving_29 (fun (u_32 : (Nat → Int) × (Nat → Int)) => (iv_X3_peopleIn m u_32.1 (fun (r_38 : Int) (u_37 : Unit) => post r_38 (u_32.1, u_32.2, t_distance_30, t_firstPassage_31)))))) T m P qf qt qw ql qs (n + 1) t th ta d fp := by
    intro n
    induction n with
    | zero =>
      intro t th ta d fp hk hc hf
      rw [iv_X4_rush_L27]
      have : t = T := by omega
      subst this
      refine ⟨⟨smz (by omega) (by omega), smz (by omega) (by omega)⟩, fun _ => ?_, fun c => absurd (by omega) c⟩
      refine sp_arrive (by omega) (GD.tk hPV t) hc (fun th ta hc => ?_)
      rw [hm]
      refine sp_peopleIn hPV ?_
      have e : szs S th = szs S (arz t (tkz S t) 6).1 := szs_congr (fun r hr _ => hc.1 r hr)
      show post (szs S th) _
      rw [e]
      exact h1 _ c1 c2
    | succ n ih =>
      intro t th ta d fp hk hc hf
      rw [iv_X4_rush_L27]
      refine ⟨⟨smz (by omega) (by omega), smz (by omega) (by omega)⟩, fun c => by omega, fun _ => ?_⟩
      refine sp_arrive (by omega) (GD.tk hPV t) hc (fun th ta hc => ?_)
      refine sp_leave hPV hq (by omega) (GD.ar (GD.tk hPV t) (Nat.le_refl _)) hc hf (fun th ta d fp hc2 hf2 x hx => ?_)
      subst hx
      exact ih (t + 1) th ta d fp (by omega) hc2 (fun _ => hf2)
  exact ⟨T + 1, key T 0 _ _ d fp (by omega) (CR.begin hq) (fun z => absurd z (by omega))⟩
/-- what RUSHED tells -/
def rhS (S : Nat → Int) (y : Int) : Prop := (y = -6 ∧ ∀ t, t ≤ 200 → szs S (arz t (tkz S t) 6).1 ≠ sg S 6) ∨ ∃ t : Nat, y = t ∧ t ≤ 200 ∧ szs S (arz t (tkz S t) 6).1 = sg S 6 ∧ ∀ t', t' < t → szs S (arz t' (tkz S t') 6).1 ≠ sg S 6
theorem rhS.one {y z : Int} (h : rhS S y) (h' : rhS S z) : y = z := by
  rcases h with ⟨a1, a2⟩ | ⟨t, a1, a2, a3, a4⟩ <;> rcases h' with ⟨b1, b2⟩ | ⟨t', b1, b2, b3, b4⟩
  · omega
  · exact absurd b3 (a2 t' b2)
  · exact absurd a3 (b2 t a2)
  · by_cases q : t < t'
    · exact absurd a3 (b4 t q)
    · by_cases q2 : t' < t
      · exact absurd b3 (a4 t' q2)
      · omega
theorem sp_rushed (hPV : PV S) (hq : PQ pe m P qf qt qw ql qs S) {th ta d fp : Nat → Int} {post : Int → ((Nat → Int) × (Nat → Int) × (Nat → Int) × (Nat → Int)) → Prop} (h1 : ∀ y u, rhS S y → post y u) : iv_X4_rushed pe m P qf qt qw ql qs th ta d fp post := by
  rw [iv_X4_rushed]
  have e1 : sg pe 6 = sg S 6 := sg_congr hq.1
  refine sp_allPeople ?_
  rw [e1]
  have hsum := hPV.sum
  rw [iv_X3_begin]
  have hm : m = smS S := hq.2.1
  have key : ∀ (n t : Nat) (th ta d fp : Nat → Int), t + n = 201 → CR th ta (tkz S t) → (1 ≤ t → ∀ r, r < 6 → fp r = fpz S (t - 1) r) → (∀ t', t' < t → szs S (arz t' (tkz S t') 6).1 ≠ sg S 6) → iv_X4_rushed_L21 (fun t_here_34 t_arriving_35 t_distance_36 t_firstPassage_37 => post (-6) (t_here_34, t_arriving_35, t_distance_36, t_firstPassage_37)) post (sg S 6) m P qf qt qw ql qs (n + 1) t th ta d fp := by
    intro n
    induction n with
    | zero =>
      intro t th ta d fp hk hc hf hz
      rw [iv_X4_rushed_L21]
      exact ⟨⟨smz (by omega) (by omega), smz (by omega) (by omega)⟩, fun _ => h1 _ _ (Or.inl ⟨rfl, fun t' ht' => hz t' (by omega)⟩), fun c => absurd (by omega) c⟩
    | succ n ih =>
      intro t th ta d fp hk hc hf hz
      rw [iv_X4_rushed_L21]
      refine ⟨⟨smz (by omega) (by omega), smz (by omega) (by omega)⟩, fun c => by omega, fun _ => ?_⟩
      have hg := GD.ar (t := t) (GD.tk hPV t) (r := 6) (Nat.le_refl _)
      refine sp_arrive (by omega) (GD.tk hPV t) hc (fun th ta hc => ?_)
      rw [hm]
      refine sp_peopleIn hPV ?_
      have e : szs S th = szs S (arz t (tkz S t) 6).1 := szs_congr (fun r hr _ => hc.1 r hr)
      have hb := szs_b (S := S) hg
      show (sm (szs S th) ∧ _) ∧ _
      rw [e]
      refine ⟨⟨smz (by omega) (by omega), smz (by omega) (by omega)⟩, fun c => ?_, fun c => ?_⟩
      · rw [← hm]
        refine sp_leave hPV hq (by omega) hg hc hf (fun th ta d fp hc2 hf2 x hx => ?_)
        subst hx
        refine ih (t + 1) th ta d fp (by omega) hc2 (fun _ => hf2) (fun t' ht' => ?_)
        by_cases z : t' = t
        · subst z; exact c
        · exact hz t' (by omega)
      · exact h1 _ _ (Or.inr ⟨t, rfl, by omega, c, hz⟩)
  exact ⟨202, key 201 0 _ _ d fp (by omega) (CR.begin hq) (fun z => absurd z (by omega)) (fun t' h => absurd h (Nat.not_lt_zero _))⟩
end CRU
