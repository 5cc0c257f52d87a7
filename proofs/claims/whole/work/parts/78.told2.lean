/-! TOLD -/
theorem bo15_ok {K : Int32 → UInt32 → Prop} : ∀ (n : Nat) (v1 : Int32) (v2 : UInt32) (v3 : Int32) (e : Int32) (v : UInt32), bo15 n v1 v2 v3 = some (e, v) → K e v → vc_X4_bitsOf_L15 K n v1 v2 v3
  | 0, _, _, _, _, _, h, _ => by rw [bo15] at h; cases h
  | n + 1, v1, v2, v3, e, v, h, hK => by
    rw [bo15] at h
    rw [vc_X4_bitsOf_L15]
    by_cases c1 : 128 ≤ v3
    · rw [if_pos c1] at h
      cases h
      exact ⟨fun _ => hK, fun z => absurd c1 z⟩
    · rw [if_neg c1] at h
      by_cases c2 : (Op.cmpValue (FP.fcmp v2 FP.fconst2) CmpOp.l) < 0
      · rw [if_pos c2] at h
        cases h
        exact ⟨fun z => absurd z c1, fun _ => ⟨fun _ => hK, fun z => absurd c2 z⟩⟩
      · rw [if_neg c2] at h
        by_cases c3 : (FP.fmul v2 (1056964608 : UInt32)) &&& 0x7fffffff ≤ 0x7f800000
        · rw [if_pos c3] at h
          refine ⟨fun z => absurd z c1, fun _ => ⟨fun z => absurd z c2, fun _ => ⟨c3, fun x hx y hy z hz => ?_⟩⟩⟩
          subst hx hy hz
          exact bo15_ok n _ _ _ e v h hK
        · rw [if_neg c3] at h; cases h
theorem bo44_ok {K : Int32 → UInt32 → Prop} : ∀ (n : Nat) (v1 : Int32) (v2 : UInt32) (v3 : Int32) (e : Int32) (v : UInt32), bo44 n v1 v2 v3 = some (e, v) → K e v → vc_X4_bitsOf_L44 K n v1 v2 v3
  | 0, _, _, _, _, _, h, _ => by rw [bo44] at h; cases h
  | n + 1, v1, v2, v3, e, v, h, hK => by
    rw [bo44] at h
    rw [vc_X4_bitsOf_L44]
    by_cases c1 : 126 ≤ v3
    · rw [if_pos c1] at h
      cases h
      exact ⟨fun _ => hK, fun z => absurd c1 z⟩
    · rw [if_neg c1] at h
      by_cases c2 : 0 ≤ (Op.cmpValue (FP.fcmp v2 FP.fconst1) CmpOp.g)
      · rw [if_pos c2] at h
        cases h
        exact ⟨fun z => absurd z c1, fun _ => ⟨fun _ => hK, fun z => absurd c2 z⟩⟩
      · rw [if_neg c2] at h
        by_cases c3 : (FP.fmul v2 FP.fconst2) &&& 0x7fffffff ≤ 0x7f800000
        · rw [if_pos c3] at h
          refine ⟨fun z => absurd z c1, fun _ => ⟨fun z => absurd z c2, fun _ => ⟨c3, fun x hx y hy z hz => ?_⟩⟩⟩
          subst hx hy hz
          exact bo44_ok n _ _ _ e v h hK
        · rw [if_neg c3] at h; cases h
theorem bo_ok {a : UInt32} {r : Int32} (h : bo a = some r) {post : Int32 → Unit → Prop} (hp : post r ()) : vc_X4_bitsOf a post := by
  unfold bo at h
  rw [vc_X4_bitsOf]
  by_cases c : 0 < (Op.cmpValue (FP.fcmp a FP.fconst0) CmpOp.l)
  · rw [if_pos c] at h
    refine ⟨fun _ => ?_, fun z => absurd c z⟩
    split at h
    · cases h
    · rename_i e v h1
      split at h
      · cases h
      · rename_i e2 v2 h2
        by_cases c3 : (FP.fmul v2 (1258291200 : UInt32)) &&& 0x7fffffff ≤ 0x7f800000
        · rw [if_pos c3] at h
          cases h
          refine ⟨12, bo15_ok 12 _ _ _ e v h1 ⟨12, bo44_ok 12 _ _ _ e2 v2 h2 ⟨c3, fun x hx => ?_⟩⟩⟩
          subst hx
          exact hp
        · rw [if_neg c3] at h; cases h
  · rw [if_neg c] at h
    cases h
    exact ⟨fun z => absurd z c, fun _ => hp⟩
theorem okf_ok {c : UInt32} (h : okf c = true) : vf_n32 c ∧ bo c = some (UInt32.toInt32 c) ∧ (Op.cmpValue (FP.fcmp c c) CmpOp.l) = 0 := by
  unfold okf at h
  rw [Bool.and_eq_true, Bool.and_eq_true, decide_eq_true_eq, decide_eq_true_eq, decide_eq_true_eq] at h
  exact ⟨h.1.1, h.1.2, h.2⟩
theorem okp_ok {p a : Nat} (h : okp p a = true) : okf (crz p a) = true ∧ vf_n32 (FP.fmul (1048576000 : UInt32) (crz p a)) ∧ vf_n32 (FP.fsub (1068205343 : UInt32) (FP.fmul (1048576000 : UInt32) (crz p a))) ∧ okf (paz (crz p a)) = true := by
  unfold okp at h
  rw [Bool.and_eq_true, Bool.and_eq_true, Bool.and_eq_true, decide_eq_true_eq, decide_eq_true_eq] at h
  exact ⟨h.1.1.1, h.1.1.2, h.1.2, h.2⟩
theorem fb_ok {c : UInt32} (h : okf c = true) {post : Int32 → Unit → Prop} (hp : post (UInt32.toInt32 c) ()) : vc_Jxf58ca_floatToIntBits_5c35a c post := by
  rw [vc_Jxf58ca_floatToIntBits_5c35a, vc_Jxf58ca_isNaN_12338]
  exact ⟨fun _ => ⟨fun z => absurd rfl z, fun _ => hp⟩, fun z => absurd (okf_ok h).2.2 z⟩
theorem tl_ix : ∀ r, r < 6 → (nI r).toNatClampNeg = r ∧ vp_in (nI r) 6 ∧ (0 + nI r).toNatClampNeg = r ∧ vp_in (0 + nI r) 69 ∧ (6 + nI r).toNatClampNeg = 6 + r ∧ vp_in (6 + nI r) 69 ∧ (6 * 0 + nI r).toNatClampNeg = r ∧ vp_in (6 * 0 + nI r) 69 ∧ (6 * 1 + nI r).toNatClampNeg = 6 + r ∧ vp_in (6 * 1 + nI r) 69 ∧ (6 * 2 + nI r).toNatClampNeg = 12 + r ∧ vp_in (6 * 2 + nI r) 69 := by
  simp only [vp_in_iff]
  decide
section TOLD
variable {pe ar ms : Nat → Int32} {r p a : Nat}
theorem cr4 (hr : r < 6) (hpe : pe r = nI p) (har : ar r = nI a) (hp : p ≤ 30) (ha : 1 ≤ a ∧ a ≤ 99) {post : UInt32 → Unit → Prop} (h : post (crz p a) ()) : vc_X2_crowd (nI r) pe ar post := by
  have ix := tl_ix r hr
  rw [vc_X2_crowd, ix.1, hpe, har]
  have h0 : (0 : Int32) < nI a := by
    have key : ∀ a, a ≤ 99 → 1 ≤ a → (0 : Int32) < nI a := by decide
    exact key a ha.2 ha.1
  exact ⟨ix.2.1, fun _ => ⟨ix.2.1, ix.2.1, (okf_ok (okp_ok (okp_all hp ha)).1).1, h⟩, fun z => absurd h0 z⟩
theorem cr5 (hr : r < 6) (hpe : ms r = nI p) (har : ms (6 + r) = nI a) (hp : p ≤ 30) (ha : 1 ≤ a ∧ a ≤ 99) {post : UInt32 → Unit → Prop} (h : post (crz p a) ()) : vc_X5_crowd (nI r) ms post := by
  have ix := tl_ix r hr
  rw [vc_X5_crowd, ix.2.2.1, ix.2.2.2.2.1, hpe, har]
  exact ⟨ix.2.2.2.1, ix.2.2.2.2.2.1, (okf_ok (okp_ok (okp_all hp ha)).1).1, h⟩
theorem pc4 (hr : r < 6) (hpe : pe r = nI p) (har : ar r = nI a) (hp : p ≤ 30) (ha : 1 ≤ a ∧ a ≤ 99) {post : UInt32 → Unit → Prop} (h : post (paz (crz p a)) ()) : vc_X2_pace (nI r) pe ar post := by
  have ok := okp_ok (okp_all hp ha)
  rw [vc_X2_pace]
  refine cr4 hr hpe har hp ha ⟨ok.2.1, fun x hx => ?_⟩
  subst hx
  refine ⟨ok.2.2.1, fun x hx => ?_⟩
  subst hx
  unfold paz at h
  refine ⟨fun z => ?_, fun z => ?_⟩
  · rw [if_pos z] at h; exact h
  · rw [if_neg z] at h; exact h
theorem pc5 (hr : r < 6) (hpe : ms r = nI p) (har : ms (6 + r) = nI a) (hp : p ≤ 30) (ha : 1 ≤ a ∧ a ≤ 99) {post : UInt32 → Unit → Prop} (h : post (paz (crz p a)) ()) : vc_X5_pace (nI r) ms post := by
  have ok := okp_ok (okp_all hp ha)
  rw [vc_X5_pace]
  refine cr5 hr hpe har hp ha ⟨ok.2.1, fun x hx => ?_⟩
  subst hx
  refine ⟨ok.2.2.1, fun x hx => ?_⟩
  subst hx
  unfold paz at h
  refine ⟨fun z => ?_, fun z => ?_⟩
  · rw [if_pos z] at h; exact h
  · rw [if_neg z] at h; exact h
theorem core_told {sr' : Int32} {ps : Int} {qf qt qw ql qs : Nat → Int} {a1 a2 : Int32} (h : PI (tz pe) (tz ar) sr'.toInt ps qf qt qw ql qs (tz ms)) {post : Prop} (hp : post) : vc_X4_told a1 a2 pe ar sr' (fun r _ => vc_X5_told a1 a2 ms (fun r2 _ => r = r2 ∧ post)) := by
  rw [vc_X4_told]
  refine vroom4 (fun c1 c2 => ⟨fun _ => ?_, fun z => absurd z (by decide)⟩) (fun c => ⟨fun z => absurd rfl z, fun _ => ?_⟩)
  · obtain ⟨r, hr⟩ : ∃ r : Nat, a1.toInt = r := ⟨a1.toInt.toNat, by omega⟩
    have hr6 : r < 6 := by omega
    have ea : a1 = nI r := nI_tz hr
    subst ea
    have ix := tl_ix r hr6
    have v := h.1.1.1 r hr6
    obtain ⟨p, hpp⟩ : ∃ p : Nat, tz ms r = p := ⟨(tz ms r).toNat, by omega⟩
    obtain ⟨a, haa⟩ : ∃ a : Nat, tz ms (6 + r) = a := ⟨(tz ms (6 + r)).toNat, by omega⟩
    have m1 : ms r = nI p := nI_tz hpp
    have m2 : ms (6 + r) = nI a := nI_tz haa
    have e1 : pe r = nI p := nI_tz ((h.2.1.1 r hr6).trans hpp)
    have e2 : ar r = nI a := nI_tz ((h.2.2 r hr6).trans haa)
    have hp30 : p ≤ 30 := by omega
    have ha99 : 1 ≤ a ∧ a ≤ 99 := by omega
    have ok := okp_ok (okp_all hp30 ha99)
    have five : ∀ {P : Int32 → Unit → Prop}, (¬ (1 : Int32) = 0 → ((a2 = 0 → (vp_in ((6 * a2) + nI r) 69 ∧ P (ms (((6 * a2) + nI r)).toNatClampNeg) ())) ∧ (a2 = 1 → (vp_in ((6 * a2) + nI r) 69 ∧ P (ms (((6 * a2) + nI r)).toNatClampNeg) ())) ∧ (a2 = 2 → (vp_in ((6 * a2) + nI r) 69 ∧ P (ms (((6 * a2) + nI r)).toNatClampNeg) ())) ∧ (a2 = 3 → (vc_X5_crowd (nI r) ms (fun (r_7 : UInt32) (u_6 : Unit) => (vc_Jxf58ca_floatToIntBits_5c35a r_7 (fun (r_9 : Int32) (u_8 : Unit) => P r_9 ()))))) ∧ (a2 = 4 → (vc_X5_pace (nI r) ms (fun (r_11 : UInt32) (u_10 : Unit) => (vc_Jxf58ca_floatToIntBits_5c35a r_11 (fun (r_13 : Int32) (u_12 : Unit) => P r_13 ()))))) ∧ (¬ a2 = 0 ∧ ¬ a2 = 1 ∧ ¬ a2 = 2 ∧ ¬ a2 = 3 ∧ ¬ a2 = 4 → P (-2) ()))) → vc_X5_told (nI r) a2 ms P := by
      intro P hh
      rw [vc_X5_told]
      exact vroom5 (fun _ _ => ⟨hh, fun z => absurd z (by decide)⟩) (fun z => absurd ⟨c1, c2⟩ z)
    refine ⟨fun e => ⟨ix.2.1, ?_⟩, fun e => ⟨ix.2.1, ?_⟩, fun e => ?_, fun e => ?_, fun e => ?_, fun e => ?_⟩
    · subst e
      refine five (fun _ => ⟨fun _ => ⟨ix.2.2.2.2.2.2.2.1, ?_, hp⟩, fun z => absurd z (by decide), fun z => absurd z (by decide), fun z => absurd z (by decide), fun z => absurd z (by decide), fun z => absurd rfl z.1⟩)
      rw [ix.1, ix.2.2.2.2.2.2.1, e1, m1]
    · subst e
      refine five (fun _ => ⟨fun z => absurd z (by decide), fun _ => ⟨ix.2.2.2.2.2.2.2.2.2.1, ?_, hp⟩, fun z => absurd z (by decide), fun z => absurd z (by decide), fun z => absurd z (by decide), fun z => absurd rfl z.2.1⟩)
      rw [ix.1, ix.2.2.2.2.2.2.2.2.1, e2, m2]
    · subst e
      have hmb := smS_b h.1.1
      have hsr : sr'.toInt = smS (tz ms) := h.2.1.2.1
      refine lift_X4_isIn (iz_tz sr') (iz_tz (nI r)) (post := fun x _ => x = tz ms (12 + r)) (by
        rw [hr, hsr]
        refine sp_isIn hmb hr6 ?_
        rw [sfm_smS h.1.1]
        by_cases q : sfS (tz ms) r = true
        · rw [if_pos q]; exact ((sfS_iff hr6).mp q).symm
        · rw [if_neg q]
          rcases v.2.2.2.2 with w | w
          · exact w.symm
          · exact absurd ((sfS_iff hr6).mpr w) q) (fun x u y z hx ey ez => ?_)
      subst ey ez hx
      have fin : ∀ k : Int32, iz (tz ms (12 + r)) = k → vc_X5_told (nI r) 2 ms (fun r2 _ => k = r2 ∧ post) := by
        intro k hk
        refine five (fun _ => ⟨fun z => absurd z (by decide), fun z => absurd z (by decide), fun _ => ⟨ix.2.2.2.2.2.2.2.2.2.2.2, ?_, hp⟩, fun z => absurd z (by decide), fun z => absurd z (by decide), fun z => absurd rfl z.2.2.1⟩)
        rw [ix.2.2.2.2.2.2.2.2.2.2.1, ← hk]
        exact (iz_tz (ms (12 + r))).symm
      refine ⟨fun z => fin 0 z, fun z => fin 1 ?_⟩
      rcases v.2.2.2.2 with w | w
      · rw [w] at z; exact absurd rfl z
      · rw [w]; rfl
    · subst e
      refine cr4 hr6 e1 e2 hp30 ha99 (bo_ok (okf_ok ok.1).2.1 ?_)
      exact five (fun _ => ⟨fun z => absurd z (by decide), fun z => absurd z (by decide), fun z => absurd z (by decide), fun _ => cr5 hr6 m1 m2 hp30 ha99 (fb_ok ok.1 ⟨rfl, hp⟩), fun z => absurd z (by decide), fun z => absurd rfl z.2.2.2.1⟩)
    · subst e
      refine pc4 hr6 e1 e2 hp30 ha99 (bo_ok (okf_ok ok.2.2.2).2.1 ?_)
      exact five (fun _ => ⟨fun z => absurd z (by decide), fun z => absurd z (by decide), fun z => absurd z (by decide), fun z => absurd z (by decide), fun _ => pc5 hr6 m1 m2 hp30 ha99 (fb_ok ok.2.2.2 ⟨rfl, hp⟩), fun z => absurd rfl z.2.2.2.2⟩)
    · exact five (fun _ => ⟨fun z => absurd z e.1, fun z => absurd z e.2.1, fun z => absurd z e.2.2.1, fun z => absurd z e.2.2.2.1, fun z => absurd z e.2.2.2.2, fun _ => ⟨rfl, hp⟩⟩)
  · rw [vc_X5_told]
    exact vroom5 (fun z1 z2 => absurd ⟨z1, z2⟩ c) (fun _ => ⟨fun z => absurd rfl z, fun _ => ⟨rfl, hp⟩⟩)
end TOLD
