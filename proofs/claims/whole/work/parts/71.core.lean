/-! THE SIMPLE CALLS: both sides tell the same -/
theorem t1a {X Y : Prop} (h : X) : (sm 1 ∧ sm 0) ∧ ((¬ (1 : Int) = 0 → X) ∧ ((1 : Int) = 0 → Y)) := ⟨⟨sm1, sm0⟩, fun _ => h, fun z => absurd z (by decide)⟩
theorem t1b {X Y : Prop} (h : X) : (sm 1 ∧ sm 0) ∧ (((1 : Int) = 0 → Y) ∧ (¬ (1 : Int) = 0 → X)) := ⟨⟨sm1, sm0⟩, fun z => absurd z (by decide), fun _ => h⟩
theorem t0a {X Y : Prop} (h : Y) : (sm 0 ∧ sm 0) ∧ ((¬ (0 : Int) = 0 → X) ∧ ((0 : Int) = 0 → Y)) := ⟨⟨sm0, sm0⟩, fun z => absurd rfl z, fun _ => h⟩
theorem t0b {X Y : Prop} (h : Y) : (sm 0 ∧ sm 0) ∧ (((0 : Int) = 0 → Y) ∧ (¬ (0 : Int) = 0 → X)) := ⟨⟨sm0, sm0⟩, fun _ => h, fun z => absurd rfl z⟩
section WI
variable {a b c : Int} {post : Int → Unit → Prop}
theorem wi1 (ha : sm a) (h : b ≤ a ∧ a ≤ c) (hp : post 1 ()) (hb : sm b := by exact smz (by omega) (by omega)) (hc : sm c := by exact smz (by omega) (by omega)) : iv_X4_isWithin a b c post := sp_within ha hb hc (fun _ _ => hp) (fun z => absurd h z)
theorem wi0 (ha : sm a) (h : ¬ (b ≤ a ∧ a ≤ c)) (hp : post 0 ()) (hb : sm b := by exact smz (by omega) (by omega)) (hc : sm c := by exact smz (by omega) (by omega)) : iv_X4_isWithin a b c post := sp_within ha hb hc (fun x y => absurd ⟨x, y⟩ h) (fun _ => hp)
theorem in1 (ha : sm a) (h : b ≤ a ∧ a ≤ c) (hp : post 1 ()) (hb : sm b := by exact smz (by omega) (by omega)) (hc : sm c := by exact smz (by omega) (by omega)) : iv_X5_in a b c post := sp_in ha hb hc (fun _ _ => hp) (fun z => absurd h z)
theorem in0 (ha : sm a) (h : ¬ (b ≤ a ∧ a ≤ c)) (hp : post 0 ()) (hb : sm b := by exact smz (by omega) (by omega)) (hc : sm c := by exact smz (by omega) (by omega)) : iv_X5_in a b c post := sp_in ha hb hc (fun x y => absurd ⟨x, y⟩ h) (fun _ => hp)
theorem rq1 (ha : sm a) (h : 0 ≤ a ∧ a ≤ 5) (hp : post 1 ()) : iv_X4_isRoom a post := by
  rw [iv_X4_isRoom]
  exact wi1 ha h ⟨Or.inr rfl, hp⟩
theorem rq0 (ha : sm a) (h : ¬ (0 ≤ a ∧ a ≤ 5)) (hp : post 0 ()) : iv_X4_isRoom a post := by
  rw [iv_X4_isRoom]
  exact wi0 ha h ⟨Or.inl rfl, hp⟩
theorem rn1 (ha : sm a) (h : 0 ≤ a ∧ a ≤ 5) (hp : post 1 ()) : iv_X5_isRoom a post := by
  rw [iv_X5_isRoom]
  exact in1 ha h ⟨Or.inr rfl, hp⟩
theorem rn0 (ha : sm a) (h : ¬ (0 ≤ a ∧ a ≤ 5)) (hp : post 0 ()) : iv_X5_isRoom a post := by
  rw [iv_X5_isRoom]
  exact in0 ha h ⟨Or.inl rfl, hp⟩
theorem ps1 {P : Int} (hP : 0 ≤ P ∧ P ≤ 10) (ha : sm a) (h : 0 ≤ a ∧ a < P) (hp : post 1 ()) : iv_X4_isPassage a P post := by
  rw [iv_X4_isPassage]
  exact wi1 ha (by omega) ⟨Or.inr rfl, hp⟩
theorem ps0 {P : Int} (hP : 0 ≤ P ∧ P ≤ 10) (ha : sm a) (h : ¬ (0 ≤ a ∧ a < P)) (hp : post 0 ()) : iv_X4_isPassage a P post := by
  rw [iv_X4_isPassage]
  exact wi0 ha (by omega) ⟨Or.inl rfl, hp⟩
theorem pt1 {S : Nat → Int} (hP : 0 ≤ S 68 ∧ S 68 ≤ 10) (ha : sm a) (h : 0 ≤ a ∧ a < S 68) (hp : post 1 ()) : iv_X5_isPassage a S post := by
  rw [iv_X5_isPassage, iv_X5_many]
  exact in1 ha (by omega) ⟨Or.inr rfl, hp⟩
theorem pt0 {S : Nat → Int} (hP : 0 ≤ S 68 ∧ S 68 ≤ 10) (ha : sm a) (h : ¬ (0 ≤ a ∧ a < S 68)) (hp : post 0 ()) : iv_X5_isPassage a S post := by
  rw [iv_X5_isPassage, iv_X5_many]
  exact in0 ha (by omega) ⟨Or.inl rfl, hp⟩
end WI
section CORE
variable {pe ar : Nat → Int} {sr ps : Int} {qf qt qw ql qs S : Nat → Int} {a1 a2 a3 a4 : Int}
theorem core_room (h : PI pe ar sr ps qf qt qw ql qs S) (s1 : sm a1) (s2 : sm a2) (s3 : sm a3) : ∃ ρ U W, iv_X4_room a1 a2 a3 pe ar (fun r u => r = ρ ∧ u = U) ∧ iv_X5_room a1 a2 a3 S (fun r u => r = ρ ∧ u = W) ∧ PI U.1 U.2 sr ps qf qt qw ql qs W := by
  by_cases c1 : 0 ≤ a1 ∧ a1 ≤ 5
  · by_cases c2 : 0 ≤ a2 ∧ a2 ≤ 30
    · by_cases c3 : 1 ≤ a3 ∧ a3 ≤ 99
      · obtain ⟨r, rfl⟩ : ∃ r : Nat, a1 = r := ⟨a1.toNat, by omega⟩
        refine ⟨S r, (uz pe r a2, uz ar r a3), uz (uz S r a2) (6 + r) a3, ?_, ?_, PI_room h (by omega) c2 c3⟩
        · rw [iv_X4_room, Int.toNat_natCast]
          exact rq1 s1 c1 (t1a (wi1 s2 c2 (t1b (wi1 s3 c3 (t1a ⟨by omega, fun x hx => ⟨by omega, by omega, by rw [hx]; exact h.2.1.1 r (by omega), rfl⟩⟩)))))
        · rw [iv_X5_room, show ((0 : Int) + (r : Int)).toNat = r by omega, show ((6 : Int) + (r : Int)).toNat = 6 + r by omega]
          exact rn1 s1 c1 (t1a (in1 s2 c2 (t1b (in1 s3 c3 (t1a ⟨by omega, fun x hx => ⟨by omega, by omega, hx, rfl⟩⟩)))))
      · refine ⟨-2, (pe, ar), S, ?_, ?_, h⟩
        · rw [iv_X4_room]
          exact rq1 s1 c1 (t1a (wi1 s2 c2 (t1b (wi0 s3 c3 (t0a ⟨rfl, rfl⟩)))))
        · rw [iv_X5_room]
          exact rn1 s1 c1 (t1a (in1 s2 c2 (t1b (in0 s3 c3 (t0a ⟨rfl, rfl⟩)))))
    · refine ⟨-2, (pe, ar), S, ?_, ?_, h⟩
      · rw [iv_X4_room]
        exact rq1 s1 c1 (t1a (wi0 s2 c2 (t0b ⟨rfl, rfl⟩)))
      · rw [iv_X5_room]
        exact rn1 s1 c1 (t1a (in0 s2 c2 (t0b ⟨rfl, rfl⟩)))
  · refine ⟨-1, (pe, ar), S, ?_, ?_, h⟩
    · rw [iv_X4_room]
      exact rq0 s1 c1 (t0a ⟨rfl, rfl⟩)
    · rw [iv_X5_room]
      exact rn0 s1 c1 (t0a ⟨rfl, rfl⟩)
theorem core_addC {p : Nat} (hp : ps = p) (h10 : p < 10) {post : (Int × (Nat → Int) × (Nat → Int) × (Nat → Int) × (Nat → Int) × (Nat → Int)) → Prop} (h : post (ps + 1, uz qf p a1, uz qt p a2, uz qw p a3, uz ql p a4, uz qs p 1000)) : iv_X2_addPassage a1 a2 a3 a4 ps qf qt qw ql qs post := by
  subst hp
  rw [iv_X2_addPassage, Int.toNat_natCast]
  exact ⟨⟨smz (by omega) (by omega), smz (by omega) (by omega)⟩, fun _ => ⟨by omega, by omega, by omega, by omega, by omega, h⟩, fun c => absurd (by omega) c⟩
theorem core_addM {p : Nat} (hp : S 68 = p) (h10 : p < 10) {post : Int → (Nat → Int) → Prop} (h : post (S 68) (addS S p a1 a2 a3 a4)) : iv_X5_add a1 a2 a3 a4 S post := by
  rw [iv_X5_add, iv_X5_many]
  rw [hp, show ((18 : Int) + (p : Int)).toNat = 18 + p by omega, show ((28 : Int) + (p : Int)).toNat = 28 + p by omega, show ((38 : Int) + (p : Int)).toNat = 38 + p by omega, show ((48 : Int) + (p : Int)).toNat = 48 + p by omega, show ((58 : Int) + (p : Int)).toNat = 58 + p by omega]
  rw [hp] at h
  exact ⟨by omega, by omega, by omega, by omega, by omega, h⟩
theorem core_passage (h : PI pe ar sr ps qf qt qw ql qs S) (s1 : sm a1) (s2 : sm a2) (s3 : sm a3) (s4 : sm a4) : ∃ ρ U W, iv_X4_passage a1 a2 a3 a4 ps qf qt qw ql qs (fun r u => r = ρ ∧ u = U) ∧ iv_X5_passage a1 a2 a3 a4 S (fun r u => r = ρ ∧ u = W) ∧ PI pe ar sr U.1 U.2.1 U.2.2.1 U.2.2.2.1 U.2.2.2.2.1 U.2.2.2.2.2 W := by
  have hps : ps = S 68 := h.2.1.2.2.1
  have b0 := h.1.1.2.1
  have b1 := h.1.1.2.2.1
  by_cases c1 : 0 ≤ a1 ∧ a1 ≤ 5
  · by_cases c2 : 0 ≤ a2 ∧ a2 ≤ 5
    · by_cases ce : a1 = a2
      · refine ⟨-2, (ps, qf, qt, qw, ql, qs), S, ?_, ?_, h⟩
        · rw [iv_X4_passage]
          exact rq1 s1 c1 (t1b (rq1 s2 c2 (t1a ⟨⟨s1, s2⟩, fun _ => ⟨rfl, rfl⟩, fun z => absurd ce z⟩)))
        · rw [iv_X5_passage]
          exact rn1 s1 c1 (t1b (rn1 s2 c2 (t1a ⟨⟨s1, s2⟩, fun _ => ⟨rfl, rfl⟩, fun z => absurd ce z⟩)))
      · by_cases c3 : 1 ≤ a3 ∧ a3 ≤ 6
        · by_cases c4 : 1 ≤ a4 ∧ a4 ≤ 4
          · by_cases c5 : S 68 < 10
            · obtain ⟨p, hp⟩ : ∃ p : Nat, S 68 = p := ⟨(S 68).toNat, by omega⟩
              refine ⟨S 68, (ps + 1, uz qf p a1, uz qt p a2, uz qw p a3, uz ql p a4, uz qs p 1000), addS S p a1 a2 a3 a4, ?_, ?_, PI_add h hp (by omega) c1 c2 ce c3 c4⟩
              · rw [iv_X4_passage]
                exact rq1 s1 c1 (t1b (rq1 s2 c2 (t1a ⟨⟨s1, s2⟩, fun z => absurd z ce, fun _ => wi1 s3 c3 (t1b (wi1 s4 c4 (t1a ⟨⟨smz (by omega) (by omega), smz (by omega) (by omega)⟩, fun _ => core_addC (p := p) (by omega) (by omega) ⟨by omega, rfl⟩, fun z => absurd (by omega) z⟩)))⟩)))
              · rw [iv_X5_passage]
                refine rn1 s1 c1 (t1b (rn1 s2 c2 (t1a ⟨⟨s1, s2⟩, fun z => absurd z ce, fun _ => in1 s3 c3 (t1b (in1 s4 c4 (t1a ?_)))⟩)))
                rw [iv_X5_many]
                exact ⟨⟨smz (by omega) (by omega), smz (by omega) (by omega)⟩, fun _ => core_addM (p := p) hp (by omega) ⟨rfl, rfl⟩, fun z => absurd z (by omega)⟩
            · refine ⟨-4, (ps, qf, qt, qw, ql, qs), S, ?_, ?_, h⟩
              · rw [iv_X4_passage]
                exact rq1 s1 c1 (t1b (rq1 s2 c2 (t1a ⟨⟨s1, s2⟩, fun z => absurd z ce, fun _ => wi1 s3 c3 (t1b (wi1 s4 c4 (t1a ⟨⟨smz (by omega) (by omega), smz (by omega) (by omega)⟩, fun z => absurd z (by omega), fun _ => ⟨rfl, rfl⟩⟩)))⟩)))
              · rw [iv_X5_passage]
                refine rn1 s1 c1 (t1b (rn1 s2 c2 (t1a ⟨⟨s1, s2⟩, fun z => absurd z ce, fun _ => in1 s3 c3 (t1b (in1 s4 c4 (t1a ?_)))⟩)))
                rw [iv_X5_many]
                exact ⟨⟨smz (by omega) (by omega), smz (by omega) (by omega)⟩, fun z => absurd (by omega) z, fun _ => ⟨rfl, rfl⟩⟩
          · refine ⟨-2, (ps, qf, qt, qw, ql, qs), S, ?_, ?_, h⟩
            · rw [iv_X4_passage]
              exact rq1 s1 c1 (t1b (rq1 s2 c2 (t1a ⟨⟨s1, s2⟩, fun z => absurd z ce, fun _ => wi1 s3 c3 (t1b (wi0 s4 c4 (t0a ⟨rfl, rfl⟩)))⟩)))
            · rw [iv_X5_passage]
              exact rn1 s1 c1 (t1b (rn1 s2 c2 (t1a ⟨⟨s1, s2⟩, fun z => absurd z ce, fun _ => in1 s3 c3 (t1b (in0 s4 c4 (t0a ⟨rfl, rfl⟩)))⟩)))
        · refine ⟨-2, (ps, qf, qt, qw, ql, qs), S, ?_, ?_, h⟩
          · rw [iv_X4_passage]
            exact rq1 s1 c1 (t1b (rq1 s2 c2 (t1a ⟨⟨s1, s2⟩, fun z => absurd z ce, fun _ => wi0 s3 c3 (t0b ⟨rfl, rfl⟩)⟩)))
          · rw [iv_X5_passage]
            exact rn1 s1 c1 (t1b (rn1 s2 c2 (t1a ⟨⟨s1, s2⟩, fun z => absurd z ce, fun _ => in0 s3 c3 (t0b ⟨rfl, rfl⟩)⟩)))
    · refine ⟨-1, (ps, qf, qt, qw, ql, qs), S, ?_, ?_, h⟩
      · rw [iv_X4_passage]
        exact rq1 s1 c1 (t1b (rq0 s2 c2 (t0a ⟨rfl, rfl⟩)))
      · rw [iv_X5_passage]
        exact rn1 s1 c1 (t1b (rn0 s2 c2 (t0a ⟨rfl, rfl⟩)))
  · refine ⟨-1, (ps, qf, qt, qw, ql, qs), S, ?_, ?_, h⟩
    · rw [iv_X4_passage]
      exact rq0 s1 c1 (t0b ⟨rfl, rfl⟩)
    · rw [iv_X5_passage]
      exact rn0 s1 c1 (t0b ⟨rfl, rfl⟩)
theorem core_widen (h : PI pe ar sr ps qf qt qw ql qs S) (s1 : sm a1) (s2 : sm a2) : ∃ ρ U W, iv_X4_widen a1 a2 ps qw (fun r u => r = ρ ∧ u = U) ∧ iv_X5_widen a1 a2 S (fun r u => r = ρ ∧ u = W) ∧ PI pe ar sr ps qf qt U ql qs W := by
  have hps : ps = S 68 := h.2.1.2.2.1
  have b0 := h.1.1.2.1
  have b1 := h.1.1.2.2.1
  by_cases c1 : 0 ≤ a1 ∧ a1 < S 68
  · by_cases c2 : 1 ≤ a2 ∧ a2 ≤ 6
    · obtain ⟨p, rfl⟩ : ∃ p : Nat, a1 = p := ⟨a1.toNat, by omega⟩
      refine ⟨S (38 + p), uz qw p a2, uz S (38 + p) a2, ?_, ?_, PI_setw h (by omega) c2⟩
      · rw [iv_X4_widen, Int.toNat_natCast]
        exact ps1 (by omega) s1 (by omega) (t1a (wi1 s2 c2 (t1a ⟨by omega, fun x hx => ⟨by omega, by rw [hx]; exact (h.2.1.2.2.2 p (by omega)).2.2.1, rfl⟩⟩)))
      · rw [iv_X5_widen, show ((38 : Int) + (p : Int)).toNat = 38 + p by omega]
        exact pt1 ⟨b0, b1⟩ s1 c1 (t1a (in1 s2 c2 (t1a ⟨by omega, fun x hx => ⟨by omega, hx, rfl⟩⟩)))
    · refine ⟨-2, qw, S, ?_, ?_, h⟩
      · rw [iv_X4_widen]
        exact ps1 (by omega) s1 (by omega) (t1a (wi0 s2 c2 (t0a ⟨rfl, rfl⟩)))
      · rw [iv_X5_widen]
        exact pt1 ⟨b0, b1⟩ s1 c1 (t1a (in0 s2 c2 (t0a ⟨rfl, rfl⟩)))
  · refine ⟨-1, qw, S, ?_, ?_, h⟩
    · rw [iv_X4_widen]
      exact ps0 (by omega) s1 (by omega) (t0a ⟨rfl, rfl⟩)
    · rw [iv_X5_widen]
      exact pt0 ⟨b0, b1⟩ s1 c1 (t0a ⟨rfl, rfl⟩)
/-- SHUT as it is told -/
def shz (S : Nat → Int) (p : Nat) : Int := if S (58 + p) = 1000 then -6 else S (58 + p)
theorem core_shC (h : PI pe ar sr ps qf qt qw ql qs S) {p : Nat} (hp : (p : Int) < S 68) {post : Int → Unit → Prop} (hh : post (shz S p) ()) : iv_X2_shutTickOrNone p qs post := by
  have b1 := h.1.1.2.2.1
  have v := h.1.1.2.2.2 p hp
  have w := (h.2.1.2.2.2 p (by omega)).2.2.2.2
  rw [iv_X2_shutTickOrNone, Int.toNat_natCast, w]
  unfold shz at hh
  refine ⟨by omega, ⟨smz (by omega) (by omega), smz (by omega) (by omega)⟩, fun c => ⟨by omega, ?_⟩, fun c => ?_⟩
  · rw [if_neg c] at hh; exact hh
  · rw [if_pos c] at hh; exact hh
theorem core_shM (h : PI pe ar sr ps qf qt qw ql qs S) {p : Nat} (hp : (p : Int) < S 68) {post : Int → Unit → Prop} (hh : post (shz S p) ()) : iv_X5_shutFrom p S post := by
  have b1 := h.1.1.2.2.1
  have v := h.1.1.2.2.2 p hp
  rw [iv_X5_shutFrom, show ((58 : Int) + (p : Int)).toNat = 58 + p by omega]
  unfold shz at hh
  refine ⟨by omega, ⟨smz (by omega) (by omega), smz (by omega) (by omega)⟩, fun c => ⟨by omega, ?_⟩, fun c => ?_⟩
  · rw [if_neg c] at hh; exact hh
  · rw [if_pos c] at hh; exact hh
theorem core_shut (h : PI pe ar sr ps qf qt qw ql qs S) (s1 : sm a1) (s2 : sm a2) : ∃ ρ U W, iv_X4_shut a1 a2 ps qs (fun r u => r = ρ ∧ u = U) ∧ iv_X5_shut a1 a2 S (fun r u => r = ρ ∧ u = W) ∧ PI pe ar sr ps qf qt qw ql U W := by
  have hps : ps = S 68 := h.2.1.2.2.1
  have b0 := h.1.1.2.1
  have b1 := h.1.1.2.2.1
  by_cases c1 : 0 ≤ a1 ∧ a1 < S 68
  · by_cases c2 : -1 ≤ a2 ∧ a2 ≤ 60
    · obtain ⟨p, rfl⟩ : ∃ p : Nat, a1 = p := ⟨a1.toNat, by omega⟩
      by_cases c3 : 0 ≤ a2
      · refine ⟨shz S p, uz qs p a2, uz S (58 + p) a2, ?_, ?_, PI_setc h (by omega) (by omega)⟩
        · rw [iv_X4_shut, Int.toNat_natCast]
          exact ps1 (by omega) s1 (by omega) (t1a (wi1 s2 c2 (t1a (core_shC h (by omega) ⟨⟨sm0, s2⟩, fun _ => ⟨by omega, rfl, rfl⟩, fun z => absurd c3 z⟩))))
        · rw [iv_X5_shut, show ((58 : Int) + (p : Int)).toNat = 58 + p by omega]
          exact pt1 ⟨b0, b1⟩ s1 c1 (t1a (in1 s2 c2 (t1a (core_shM h (by omega) ⟨⟨sm0, s2⟩, fun _ => ⟨by omega, rfl, rfl⟩, fun z => absurd c3 z⟩))))
      · refine ⟨shz S p, uz qs p 1000, uz S (58 + p) 1000, ?_, ?_, PI_setc h (by omega) (by omega)⟩
        · rw [iv_X4_shut, Int.toNat_natCast]
          exact ps1 (by omega) s1 (by omega) (t1a (wi1 s2 c2 (t1a (core_shC h (by omega) ⟨⟨sm0, s2⟩, fun z => absurd z c3, fun _ => ⟨by omega, rfl, rfl⟩⟩))))
        · rw [iv_X5_shut, show ((58 : Int) + (p : Int)).toNat = 58 + p by omega]
          exact pt1 ⟨b0, b1⟩ s1 c1 (t1a (in1 s2 c2 (t1a (core_shM h (by omega) ⟨⟨sm0, s2⟩, fun z => absurd z c3, fun _ => ⟨by omega, rfl, rfl⟩⟩))))
    · refine ⟨-2, qs, S, ?_, ?_, h⟩
      · rw [iv_X4_shut]
        exact ps1 (by omega) s1 (by omega) (t1a (wi0 s2 c2 (t0a ⟨rfl, rfl⟩)))
      · rw [iv_X5_shut]
        exact pt1 ⟨b0, b1⟩ s1 c1 (t1a (in0 s2 c2 (t0a ⟨rfl, rfl⟩)))
  · refine ⟨-1, qs, S, ?_, ?_, h⟩
    · rw [iv_X4_shut]
      exact ps0 (by omega) s1 (by omega) (t0a ⟨rfl, rfl⟩)
    · rw [iv_X5_shut]
      exact pt0 ⟨b0, b1⟩ s1 c1 (t0a ⟨rfl, rfl⟩)
theorem core_of (h : PI pe ar sr ps qf qt qw ql qs S) (s1 : sm a1) (s2 : sm a2) : ∃ ρ, iv_X4_of a1 a2 ps qf qt qw ql qs (fun r u => r = ρ ∧ u = ()) ∧ iv_X5_of a1 a2 S (fun r u => r = ρ ∧ u = ()) := by
  have hps : ps = S 68 := h.2.1.2.2.1
  have b0 := h.1.1.2.1
  have b1 := h.1.1.2.2.1
  by_cases c1 : 0 ≤ a1 ∧ a1 < S 68
  · obtain ⟨p, rfl⟩ : ∃ p : Nat, a1 = p := ⟨a1.toNat, by omega⟩
    have w := h.2.1.2.2.2 p (by omega)
    by_cases c2 : 0 ≤ a2 ∧ a2 ≤ 4
    · by_cases c3 : a2 = 4
      · subst c3
        refine ⟨shz S p, ?_, ?_⟩
        · rw [iv_X4_of]
          exact ps1 (by omega) s1 (by omega) (t1a ⟨s2, fun z => absurd z (by decide), fun z => absurd z (by decide), fun z => absurd z (by decide), fun z => absurd z (by decide), fun _ => core_shC h (by omega) ⟨rfl, rfl⟩, fun z => absurd rfl z.2.2.2.2⟩)
        · rw [iv_X5_of]
          exact pt1 ⟨b0, b1⟩ s1 c1 (t1a (in1 s2 c2 (t1a ⟨⟨s2, s2⟩, fun z => absurd rfl z, fun _ => core_shM h (by omega) ⟨rfl, rfl⟩⟩)))
      · refine ⟨S (18 + 10 * a2 + p).toNat, ?_, ?_⟩
        · rw [iv_X4_of, Int.toNat_natCast]
          refine ps1 (by omega) s1 (by omega) (t1a ⟨s2, fun z => ⟨by omega, ?_, rfl⟩, fun z => ⟨by omega, ?_, rfl⟩, fun z => ⟨by omega, ?_, rfl⟩, fun z => ⟨by omega, ?_, rfl⟩, fun z => absurd z c3, fun z => by omega⟩)
          · rw [w.1, z, show ((18 : Int) + 10 * 0 + p).toNat = 18 + p by omega]
          · rw [w.2.1, z, show ((18 : Int) + 10 * 1 + p).toNat = 28 + p by omega]
          · rw [w.2.2.1, z, show ((18 : Int) + 10 * 2 + p).toNat = 38 + p by omega]
          · rw [w.2.2.2.1, z, show ((18 : Int) + 10 * 3 + p).toNat = 48 + p by omega]
        · rw [iv_X5_of]
          exact pt1 ⟨b0, b1⟩ s1 c1 (t1a (in1 s2 c2 (t1a ⟨⟨s2, smz (by omega) (by omega)⟩, fun z => ⟨by omega, rfl, rfl⟩, fun z => absurd z c3⟩)))
    · refine ⟨-2, ?_, ?_⟩
      · rw [iv_X4_of]
        exact ps1 (by omega) s1 (by omega) (t1a ⟨s2, fun z => by omega, fun z => by omega, fun z => by omega, fun z => by omega, fun z => by omega, fun _ => ⟨rfl, rfl⟩⟩)
      · rw [iv_X5_of]
        exact pt1 ⟨b0, b1⟩ s1 c1 (t1a (in0 s2 c2 (t0a ⟨rfl, rfl⟩)))
  · refine ⟨-1, ?_, ?_⟩
    · rw [iv_X4_of]
      exact ps0 (by omega) s1 (by omega) (t0a ⟨rfl, rfl⟩)
    · rw [iv_X5_of]
      exact pt0 ⟨b0, b1⟩ s1 c1 (t0a ⟨rfl, rfl⟩)
end CORE
