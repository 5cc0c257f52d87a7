/-! SAFE -/
theorem vroom4 {a : Int32} {post : Int32 → Unit → Prop} (h1 : 0 ≤ a.toInt → a.toInt ≤ 5 → post 1 ()) (h0 : ¬ (0 ≤ a.toInt ∧ a.toInt ≤ 5) → post 0 ()) : vc_X4_isRoom a post := by
  by_cases c : 0 ≤ a.toInt ∧ a.toInt ≤ 5
  · exact lift_X4_isRoom (iz_tz a) (post := fun r _ => r = 1) (rq1 (sm_tz a) c rfl) (fun r u x y h ex ey => by subst h ex ey; exact h1 c.1 c.2)
  · exact lift_X4_isRoom (iz_tz a) (post := fun r _ => r = 0) (rq0 (sm_tz a) c rfl) (fun r u x y h ex ey => by subst h ex ey; exact h0 c)
theorem vroom5 {a : Int32} {post : Int32 → Unit → Prop} (h1 : 0 ≤ a.toInt → a.toInt ≤ 5 → post 1 ()) (h0 : ¬ (0 ≤ a.toInt ∧ a.toInt ≤ 5) → post 0 ()) : vc_X5_isRoom a post := by
  by_cases c : 0 ≤ a.toInt ∧ a.toInt ≤ 5
  · exact lift_X5_isRoom (iz_tz a) (post := fun r _ => r = 1) (rn1 (sm_tz a) c rfl) (fun r u x y h ex ey => by subst h ex ey; exact h1 c.1 c.2)
  · exact lift_X5_isRoom (iz_tz a) (post := fun r _ => r = 0) (rn0 (sm_tz a) c rfl) (fun r u x y h ex ey => by subst h ex ey; exact h0 c)
theorem vwith01 {a : Int32} {post : Int32 → Unit → Prop} (h1 : a = 1 → post 1 ()) (h2 : a = 0 → post 1 ()) (h0 : ¬ (0 ≤ a.toInt ∧ a.toInt ≤ 1) → post 0 ()) : vc_X4_isWithin a 0 1 post := by
  by_cases c : 0 ≤ a.toInt ∧ a.toInt ≤ 1
  · refine lift_X4_isWithin (iz_tz a) (a1 := 0) rfl (a2 := 1) rfl (post := fun r _ => r = 1) (wi1 (sm_tz a) c rfl) (fun r u x y h ex ey => ?_)
    subst h ex ey
    by_cases e : a.toInt = 1
    · exact h1 (by rw [iz_tz a, e]; rfl)
    · exact h2 (by rw [iz_tz a, show a.toInt = 0 by omega]; rfl)
  · exact lift_X4_isWithin (iz_tz a) (a1 := 0) rfl (a2 := 1) rfl (post := fun r _ => r = 0) (wi0 (sm_tz a) c rfl) (fun r u x y h ex ey => by subst h ex ey; exact h0 c)
/-- the number of ones below 64 -/
def pcn (m : Nat) : Nat := m % 2 + m / 2 % 2 + m / 4 % 2 + m / 8 % 2 + m / 16 % 2 + m / 32 % 2
theorem bc_ok : ∀ m, m < 64 → ∀ post : Int32 → Unit → Prop, post (nI (pcn m)) () → vc_J6_bitCount_0f7a4 (nI m) post := by
  have key : ∀ m, m < 64 → (let x1 := (nI m - (((Int32.toUInt32 (nI m) >>> (Int32.toUInt32 1 &&& Int32.toUInt32 31)).toInt32) &&& (1431655765 : Int32))); let x2 := ((x1 &&& (858993459 : Int32)) + (((Int32.toUInt32 x1 >>> (Int32.toUInt32 2 &&& Int32.toUInt32 31)).toInt32) &&& (858993459 : Int32))); let x3 := ((x2 + ((Int32.toUInt32 x2 >>> (Int32.toUInt32 4 &&& Int32.toUInt32 31)).toInt32)) &&& (252645135 : Int32)); let x4 := (x3 + ((Int32.toUInt32 x3 >>> (Int32.toUInt32 8 &&& Int32.toUInt32 31)).toInt32)); let x5 := (x4 + ((Int32.toUInt32 x4 >>> (Int32.toUInt32 16 &&& Int32.toUInt32 31)).toInt32)); (x5 &&& 63)) = nI (pcn m) := by decide +kernel
  intro m hm post hp
  rw [vc_J6_bitCount_0f7a4]
  intro x1 h1 x2 h2 x3 h3 x4 h4 x5 h5
  have k := key m hm
  simp only at k
  subst h1 h2 h3 h4 h5
  rw [k]
  exact hp
theorem sf_bits : ∀ m, m < 64 → ∀ r, r < 6 → (nI m &&& ((1 <<< (nI r &&& 31)) ^^^ (-1))) = nI (m - (if m.testBit r = true then 2 ^ r else 0)) ∧ (nI m ||| (1 <<< (nI r &&& 31))) = nI (m + (if m.testBit r = true then 0 else 2 ^ r)) := by decide +kernel
theorem smS_set {S : Nat → Int} {r : Nat} (hr : r < 6) {b : Int} : smS (uz S (12 + r) b) = smS S + 2 ^ r * (b - S (12 + r)) := by
  unfold smS
  rcases (show r = 0 ∨ r = 1 ∨ r = 2 ∨ r = 3 ∨ r = 4 ∨ r = 5 by omega) with rfl | rfl | rfl | rfl | rfl | rfl <;> simp only [uz] <;> simp <;> omega
theorem pcn_smS {S : Nat → Int} (h : PV S) : ((pcn (smS S).toNat : Nat) : Int) = sg (fun r => S (12 + r)) 6 := by
  have h0 : S 12 = 0 ∨ S 12 = 1 := (h.1 0 (by omega)).2.2.2.2
  have h1 : S 13 = 0 ∨ S 13 = 1 := (h.1 1 (by omega)).2.2.2.2
  have h2 : S 14 = 0 ∨ S 14 = 1 := (h.1 2 (by omega)).2.2.2.2
  have h3 : S 15 = 0 ∨ S 15 = 1 := (h.1 3 (by omega)).2.2.2.2
  have h4 : S 16 = 0 ∨ S 16 = 1 := (h.1 4 (by omega)).2.2.2.2
  have h5 : S 17 = 0 ∨ S 17 = 1 := (h.1 5 (by omega)).2.2.2.2
  show ((pcn (smS S).toNat : Nat) : Int) = 0 + S 12 + S 13 + S 14 + S 15 + S 16 + S 17
  unfold pcn smS
  omega
theorem sp5_safe {S : Nat → Int} {a1 a2 : Int} (s1 : sm a1) (s2 : sm a2) {post : Int → (Nat → Int) → Prop} (h0 : ¬ (0 ≤ a1 ∧ a1 ≤ 5) → post (-1) S) (h1 : 0 ≤ a1 → a1 ≤ 5 → ¬ (0 ≤ a2 ∧ a2 ≤ 1) → post (-2) S) (h2 : 0 ≤ a1 → a1 ≤ 5 → 0 ≤ a2 → a2 ≤ 1 → post (sg (fun r => uz S (12 + a1.toNat) a2 (12 + r)) 6) (uz S (12 + a1.toNat) a2)) : iv_X5_safe a1 a2 S post := by
  rw [iv_X5_safe]
  by_cases c1 : 0 ≤ a1 ∧ a1 ≤ 5
  · by_cases c2 : 0 ≤ a2 ∧ a2 ≤ 1
    · refine rn1 s1 c1 (t1a (in1 s2 c2 (t1a ⟨by omega, 7, ?_⟩)))
      rw [show ((12 : Int) + a1).toNat = 12 + a1.toNat by omega]
      have h3 := h2 c1.1 c1.2 c2.1 c2.2
      have key : ∀ (d r : Nat), r + d = 6 → iv_X5_safe_L36 (fun k3_27 => post k3_27 (uz S (12 + a1.toNat) a2)) (uz S (12 + a1.toNat) a2) (d + 1) (sg (fun r => uz S (12 + a1.toNat) a2 (12 + r)) r) r := by
        intro d
        induction d with
        | zero =>
          intro r hr
          rw [iv_X5_safe_L36]
          have : r = 6 := by omega
          subst this
          exact ⟨⟨smz (by omega) (by omega), smz (by omega) (by omega)⟩, fun _ => h3, fun c => absurd (by omega) c⟩
        | succ d ih =>
          intro r hr
          rw [iv_X5_safe_L36, show ((12 : Int) + (r : Int)).toNat = 12 + r by omega]
          refine ⟨⟨smz (by omega) (by omega), smz (by omega) (by omega)⟩, fun c => by omega, fun _ => ⟨by omega, fun x hx y hy => ?_⟩⟩
          subst hx hy
          exact ih (r + 1) (by omega)
      exact key 6 0 (by omega)
    · exact rn1 s1 c1 (t1a (in0 s2 c2 (t0a (h1 c1.1 c1.2 c2))))
  · exact rn0 s1 c1 (t0a (h0 c1))
theorem nI_tz {x : Int32} {m : Nat} (h : x.toInt = m) : x = nI m := by
  rw [iz_tz x, h, iz_nI]
theorem core_safe {pe ar : Nat → Int} {sr' : Int32} {ps : Int} {qf qt qw ql qs : Nat → Int} {ms : Nat → Int32} {a1 a2 : Int32} (h : PI pe ar sr'.toInt ps qf qt qw ql qs (tz ms)) {post : Int32 → Int32 → (Nat → Int32) → Prop}
    (hp : ∀ (r : Int32) (u : Int32) (w : Nat → Int32), PI pe ar u.toInt ps qf qt qw ql qs (tz w) → post r u w) : vc_X4_safe a1 a2 sr' (fun r u => vc_X5_safe a1 a2 ms (fun r2 w => r = r2 ∧ post r u w)) := by
  have hsr : sr'.toInt = smS (tz ms) := h.2.1.2.1
  have hmb := smS_b h.1.1
  obtain ⟨m, hm⟩ : ∃ m : Nat, smS (tz ms) = m := ⟨(smS (tz ms)).toNat, by omega⟩
  have hm64 : m < 64 := by omega
  have esr : sr' = nI m := nI_tz (by rw [hsr, hm])
  rw [vc_X4_safe]
  refine vroom4 (fun c1 c2 => ⟨fun _ => ?_, fun z => absurd z (by decide)⟩) (fun c => ⟨fun z => absurd rfl z, fun _ => ?_⟩)
  · obtain ⟨r, hr⟩ : ∃ r : Nat, a1.toInt = r := ⟨a1.toInt.toNat, by omega⟩
    have hr6 : r < 6 := by omega
    have ea : a1 = nI r := nI_tz hr
    have hb := sf_bits m hm64 r hr6
    have htb : m.testBit r = true ↔ tz ms (12 + r) = 1 := by
      rw [← sfS_iff hr6, ← sfm_smS h.1.1]
      unfold sfm
      rw [hm, Int.toNat_natCast]
    have hv := (h.1.1.1 r hr6).2.2.2.2
    have fin : ∀ (b : Int) (k : Nat), a2.toInt = b → (b = 0 ∨ b = 1) → smS (uz (tz ms) (12 + r) b) = k → vc_X5_safe a1 a2 ms (fun r2 w => nI (pcn k) = r2 ∧ post (nI (pcn k)) (nI k) w) := by
      intro b k eb hb01 ek
      have hPI := PI_safe h hr6 hb01
      have hk64 := smS_b hPI.1.1
      rw [ek] at hPI hk64
      refine lift_X5_safe (iz_tz a1) (iz_tz a2) (az_tz ms) (post := fun r2 w => r2 = ((pcn k : Nat) : Int) ∧ w = uz (tz ms) (12 + r) b) (sp5_safe (sm_tz a1) (sm_tz a2) (fun z => absurd ⟨c1, c2⟩ z) (fun _ _ z => absurd (by omega) z) (fun _ _ _ _ => ?_)) (fun r2 w x y hw ex ey => ?_)
      · rw [hr, Int.toNat_natCast, eb]
        refine ⟨?_, rfl⟩
        have := pcn_smS hPI.1.1
        rw [ek, Int.toNat_natCast] at this
        exact this.symm
      · obtain ⟨e1, e2⟩ := hw
        subst e1 e2 ex ey
        refine ⟨iz_nI _, hp _ _ _ ?_⟩
        have h2 := PI_az hPI
        have ekk : (nI k).toInt = k := by rw [iz_nI]; exact iz_s (by omega) (by omega)
        rw [ekk]
        refine ⟨h2.1, ⟨fun q hq => ?_, ?_, ?_, fun q hq => ?_⟩, fun q hq => ?_⟩
        · rw [wz_at (by have := hPI.1.1.1 q hq; omega) (by have := hPI.1.1.1 q hq; omega)]; exact hPI.2.1.1 q hq
        · rw [smS_az hPI.1.1]; exact hPI.2.1.2.1
        · rw [wz_at (by have := hPI.1.1.2.1; omega) (by have := hPI.1.1.2.2.1; omega)]; exact hPI.2.1.2.2.1
        · have hst : ∀ j, 18 ≤ j → tz (az (uz (tz ms) (12 + r) b)) j = tz ms j := fun j hj => by
            show (iz (uz (tz ms) (12 + r) b j)).toInt = tz ms j
            rw [uz_n (by omega)]
            exact congrArg Int32.toInt (iz_tz (ms j)).symm
          rw [hst (18 + q) (by omega), hst (28 + q) (by omega), hst (38 + q) (by omega), hst (48 + q) (by omega), hst (58 + q) (by omega)]
          exact h.2.1.2.2.2 q hq
        · rw [wz_at (by have := hPI.1.1.1 q hq; omega) (by have := hPI.1.1.1 q hq; omega)]; exact hPI.2.2 q hq
    have p2 : (2 : Int) ^ r = ((2 ^ r : Nat) : Int) := by norm_cast
    refine vwith01 (fun e => ⟨fun _ x3 hx3 => ⟨fun z => absurd e z, fun _ => ?_⟩, fun z => absurd z (by decide)⟩) (fun e => ⟨fun _ x3 hx3 => ⟨fun _ => ?_, fun z => absurd z (by rw [e]; decide)⟩, fun z => absurd z (by decide)⟩) (fun c => ⟨fun z => absurd rfl z, fun _ => ?_⟩)
    · rw [hx3, esr, ea, hb.2]
      have ek : smS (uz (tz ms) (12 + r) 1) = ((m + (if m.testBit r = true then 0 else 2 ^ r) : Nat) : Int) := by
        rw [smS_set hr6, hm, p2]
        by_cases q : m.testBit r = true
        · rw [if_pos q, htb.mp q]; omega
        · rw [if_neg q]
          have : tz ms (12 + r) = 0 := by
            rcases hv with v | v
            · exact v
            · exact absurd (htb.mpr v) q
          rw [this]; omega
      have h3 := PI_safe h hr6 (b := 1) (Or.inr rfl)
      have hk := smS_b h3.1.1
      rw [ek] at hk
      refine bc_ok _ (by omega) _ ?_
      rw [← ea]
      exact fin 1 _ (by rw [e]; rfl) (Or.inr rfl) ek
    · rw [hx3, esr, ea, hb.1]
      have hle : m.testBit r = true → 2 ^ r ≤ m := fun q => Nat.ge_two_pow_of_testBit q
      have ek : smS (uz (tz ms) (12 + r) 0) = ((m - (if m.testBit r = true then 2 ^ r else 0) : Nat) : Int) := by
        rw [smS_set hr6, hm, p2]
        by_cases q : m.testBit r = true
        · rw [if_pos q, htb.mp q]; have := hle q; omega
        · rw [if_neg q]
          have : tz ms (12 + r) = 0 := by
            rcases hv with v | v
            · exact v
            · exact absurd (htb.mpr v) q
          rw [this]; omega
      have h3 := PI_safe h hr6 (b := 0) (Or.inl rfl)
      have hk := smS_b h3.1.1
      rw [ek] at hk
      refine bc_ok _ (by omega) _ ?_
      rw [← ea]
      exact fin 0 _ (by rw [e]; rfl) (Or.inl rfl) ek
    · refine lift_X5_safe (iz_tz a1) (iz_tz a2) (az_tz ms) (post := fun r2 w => r2 = -2 ∧ w = tz ms) (sp5_safe (sm_tz a1) (sm_tz a2) (fun z => absurd ⟨c1, c2⟩ z) (fun _ _ _ => ⟨rfl, rfl⟩) (fun _ _ z1 z2 => absurd ⟨z1, z2⟩ c)) (fun r2 w x y hw ex ey => ?_)
      obtain ⟨e1, e2⟩ := hw
      subst e1 e2 ex ey
      refine ⟨rfl, hp _ _ _ ?_⟩
      rw [← az_tz ms]; exact h
  · refine lift_X5_safe (iz_tz a1) (iz_tz a2) (az_tz ms) (post := fun r2 w => r2 = -1 ∧ w = tz ms) (sp5_safe (sm_tz a1) (sm_tz a2) (fun _ => ⟨rfl, rfl⟩) (fun z1 z2 _ => absurd ⟨z1, z2⟩ c) (fun z1 z2 _ _ => absurd ⟨z1, z2⟩ c)) (fun r2 w x y hw ex ey => ?_)
    obtain ⟨e1, e2⟩ := hw
    subst e1 e2 ex ey
    refine ⟨rfl, hp _ _ _ ?_⟩
    rw [← az_tz ms]; exact h
