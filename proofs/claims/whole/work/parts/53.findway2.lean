section FW2
variable {S gs ws nl : Nat → Int} {T : Nat}
theorem sp_beginWave (hPV : PV S) {cf cb wv : Nat → Int} {wn g : Int} (hnl : ∀ r, r < 6 → 0 ≤ nl r ∧ nl r ≤ 1000) (hns : ∀ r, r < 6 → sfS S r = true → nl r = 0) {post : ((Nat → Int) × (Nat → Int) × (Nat → Int) × Int × Int) → Prop}
    (hp : ∀ (cf cb wv : Nat → Int) (wn : Nat) (rk : Nat → Nat), WIs S T (ew gs ws) nl cf cb wv wn rk → (∀ p, p < 366 → -100 ≤ cb p ∧ cb p ≤ 100) → (∀ r, r < 6 → 0 < nl r → cb (r * 61) ≠ -6) → post (cf, cb, wv, wn, -6)) : iv_X5_beginWave nl cf cb wv wn g post := by
  rw [iv_X5_beginWave]
  have key1 : ∀ {K : (Nat → Int) → Prop}, (∀ cb : Nat → Int, (∀ p, p < 366 → cb p = -6) → K cb) → ∀ (d k : Nat) (cb : Nat → Int), k + d = 366 → (∀ p, p < k → cb p = -6) → iv_X5_beginWave_L13 K (d + 1) k cb := by
    intro K hK d
    induction d with
    | zero =>
      intro k cb hk hi
      rw [iv_X5_beginWave_L13]
      exact ⟨⟨smz (by omega) (by omega), smz (by omega) (by omega)⟩, fun _ => hK cb (fun p hp => hi p (by omega)), fun c => absurd (by omega) c⟩
    | succ d ih =>
      intro k cb hk hi
      rw [iv_X5_beginWave_L13]
      simp only [Int.toNat_natCast]
      refine ⟨⟨smz (by omega) (by omega), smz (by omega) (by omega)⟩, fun c => by omega, fun c => ⟨by omega, fun x hx => ?_⟩⟩
      subst hx
      refine ih (k + 1) _ (by omega) (fun p hp => ?_)
      by_cases q : p = k
      · subst q; rw [uz_s]
      · rw [uz_n q]; exact hi p (by omega)
  refine ⟨367, key1 (fun cb0 hcb0 => ?_) 366 0 cb (by omega) (fun p hp => absurd hp (Nat.not_lt_zero p))⟩
  have hz : cntV cb0 = 0 := by
    have : cntV cb0 = sg (fun _ => 0) 366 := sg_congr (fun p hp => by
      show (if cb0 p = -6 then (0 : Int) else 1) = 0
      rw [if_pos (hcb0 p hp)])
    rw [this]
    have h3 : ∀ n : Nat, sg (fun _ => (0 : Int)) n = 0 := by
      intro n
      induction n with
      | zero => rfl
      | succ n ih => rw [sg, ih]; rfl
    exact h3 366
  have key2 : ∀ {K : (Nat → Int) → (Nat → Int) → (Nat → Int) → Int → Prop}, (∀ (cf cb wv : Nat → Int) (wn : Nat) (rk : Nat → Nat), WIs S T (ew gs ws) nl cf cb wv wn rk → (∀ p, p < 366 → -100 ≤ cb p ∧ cb p ≤ 100) → (∀ r, r < 6 → 0 < nl r → cb (r * 61) ≠ -6) → K cf cb wv wn) →
      ∀ (d k : Nat) (cf cb wv : Nat → Int) (wn : Nat) (rk : Nat → Nat), k + d = 6 → WIs S T (ew gs ws) nl cf cb wv wn rk → (∀ p, p < 366 → -100 ≤ cb p ∧ cb p ≤ 100) → (∀ r, r < k → 0 < nl r → cb (r * 61) ≠ -6) → iv_X5_beginWave_L36 K nl (d + 1) k cf cb wv wn := by
    intro K hK d
    induction d with
    | zero =>
      intro k cf cb wv wn rk hk h hcb hi
      rw [iv_X5_beginWave_L36]
      have : k = 6 := by omega
      subst this
      exact ⟨⟨smz (by omega) (by omega), smz (by omega) (by omega)⟩, fun _ => hK cf cb wv wn rk h hcb hi, fun c => absurd (by omega) c⟩
    | succ d ih =>
      intro k cf cb wv wn rk hk h hcb hi
      rw [iv_X5_beginWave_L36]
      simp only [Int.toNat_natCast]
      have hb := hnl k (by omega)
      refine ⟨⟨smz (by omega) (by omega), smz (by omega) (by omega)⟩, fun c => by omega, fun c => ⟨by omega, ⟨smz (by omega) (by omega), smz (by omega) (by omega)⟩, fun c2 x hx => ?_, fun c2 => ?_⟩⟩
      · subst hx
        refine ih (k + 1) cf cb wv wn rk (by omega) h hcb (fun r hr z => ?_)
        by_cases q : r = k
        · subst q; omega
        · exact hi r (by omega) z
      · rw [show (61 : Int) * (k : Int) = ((k * 61 : Nat) : Int) by omega]
        have hsk : sfS S k = false := by
          by_cases q : sfS S k = true
          · have := hns k (by omega) q; omega
          · simpa using q
        refine sp_come h hcb (by omega) ?_ (by omega) (by omega) (Or.inl ⟨rfl, rfl, by omega, ?_⟩) (fun cf' cb' wv' wn' rk' g1 g2 g3 g4 g5 g6 x hx => ?_)
        · rw [show k * 61 / 61 = k by omega]; exact hsk
        · rw [show k * 61 / 61 = k by omega]; omega
        · subst hx
          refine ih (k + 1) cf' cb' wv' wn' rk' (by omega) g1 g2 (fun r hr z => ?_)
          by_cases q : r = k
          · subst q; exact g4
          · exact g3 _ (hi r (by omega) z)
  refine ⟨7, key2 (fun cf cb wv wn rk h1 h2 h3 => hp cf cb wv wn rk h1 h2 h3) 6 0 cf cb0 wv 0 (fun _ => 0) (by omega) ⟨by rw [hz]; rfl, fun i hi => absurd hi (Nat.not_lt_zero i), fun p hp hv => absurd (hcb0 p hp) hv⟩ (fun p hp => by rw [hcb0 p hp]; omega) (fun r hr => absurd hr (Nat.not_lt_zero r))⟩
abbrev CutS (S : Nat → Int) (T : Nat) (E nl : Nat → Int) (R : Nat → Nat → Bool) : Prop := CutZ (6 + (S 68).toNat) (fun l => (rz S 18 l).toNat) (fun l => (rz S 28 l).toNat) (fun l => (lz S 1 48 l).toNat) (lz S 180 38) (lz S 1000 58) (sfS S) T E nl R
theorem sp_findWay (hPV : PV S) (hT : T ≤ 60) (hEB : ∀ e, e < 976 → 0 ≤ ew gs ws e ∧ ew gs ws e ≤ 1000) (hE2 : ∀ e, e < 976 → ew gs ws e ≠ 0 → sfS S (rz S 18 (e / 61)).toNat = false ∧ e % 61 + (lz S 1 48 (e / 61)).toNat ≤ T) {cf cb wv : Nat → Int} {wn g gb : Int} (hnl : ∀ r, r < 6 → 0 ≤ nl r ∧ nl r ≤ 1000) (hns : ∀ r, r < 6 → sfS S r = true → nl r = 0) {post : Int → ((Nat → Int) × (Nat → Int) × (Nat → Int) × Int × Int × Int) → Prop}
    (hp0 : ∀ u R, CutS S T (ew gs ws) nl R → post 0 u) (hp1 : ∀ (cf cb wv : Nat → Int) (wn : Nat) (rk : Nat → Nat) (p q : Nat), WIs S T (ew gs ws) nl cf cb wv wn rk → p < 366 → cb p ≠ -6 → Goalz S T (ew gs ws) q p → post 1 (cf, cb, wv, wn, p, q)) : iv_X5_findWay S gs ws nl cf cb wv wn g gb T post := by
  have hNV := hPV.nv
  rw [iv_X5_findWay]
  refine sp_beginWave (T := T) (gs := gs) (ws := ws) hPV hnl hns (fun cf1 cb1 wv1 wn1 rk1 h1 h2 h3 => ⟨368, ?_⟩)
  refine wave_L hPV hT hEB hE2 (fun cf2 cb2 wv2 wn2 rk2 g2 gb2 a1 a2 a3 => ?_) 367 0 cf1 cb1 wv1 wn1 rk1 (-6) gb (by omega) (by omega) h1 h2 h3 (Or.inl ⟨rfl, fun i l hi => absurd hi (Nat.not_lt_zero i)⟩)
  rcases a3 with ⟨c1, c2⟩ | ⟨p, q, c1, c2, c3, c4, c5⟩
  · subst c1
    refine ⟨⟨smz (by omega) (by omega), smz (by omega) (by omega)⟩, fun _ => hp0 _ (fun r t => decide (cb2 (r * 61 + t) = -6)) ⟨fun l t hl ht hsf hsh hln hto hE => ?_, fun l t hl ht hsf hln hE hR => ?_, fun r hr hn => ?_⟩, fun z => absurd (by omega) z⟩
    · have hsf : sfS S (rz S 18 l).toNat = false := hsf
      have hln : t + (lz S 1 48 l).toNat ≤ T := hln
      have hto : sfS S (rz S 28 l).toNat = true ∨ decide (cb2 ((rz S 28 l).toNat * 61 + (t + (lz S 1 48 l).toNat)) = -6) = true := hto
      show decide (cb2 ((rz S 18 l).toNat * 61 + t) = -6) = true
      rw [decide_eq_true_eq] at hto ⊢
      have hvl := hNV.2.2.1 l hl
      by_cases q : cb2 ((rz S 18 l).toNat * 61 + t) = -6
      · exact q
      · exfalso
        have w := a1.2.2 _ (by omega) q
        have lc := c2 _ l w.2.2.1 hl
        rw [w.2.2.2.1, Int.toNat_natCast] at lc
        have d1 : ((rz S 18 l).toNat * 61 + t) / 61 = (rz S 18 l).toNat := by omega
        have d2 : ((rz S 18 l).toNat * 61 + t) % 61 = t := by omega
        have r1 := lc.1 (by rw [d1]) (by rw [d2]; exact hsh) (by rw [d2]; exact hln) (by rw [d2]; exact hE)
        rw [d2] at r1
        rcases hto with z | z
        · rw [r1.1] at z; exact absurd z (by decide)
        · exact r1.2 z
    · have hsf : sfS S (rz S 18 l).toNat = false := hsf
      have hln : t + (lz S 1 48 l).toNat ≤ T := hln
      have hR : decide (cb2 ((rz S 18 l).toNat * 61 + t) = -6) = true := hR
      show sfS S (rz S 28 l).toNat = true ∨ decide (cb2 ((rz S 28 l).toNat * 61 + (t + (lz S 1 48 l).toNat)) = -6) = true
      rw [decide_eq_true_eq] at hR ⊢
      have hvl := hNV.2.2.1 l hl
      by_cases q : cb2 ((rz S 28 l).toNat * 61 + (t + (lz S 1 48 l).toNat)) = -6
      · exact Or.inr q
      · exfalso
        have w := a1.2.2 _ (by omega) q
        have lc := c2 _ l w.2.2.1 hl
        rw [w.2.2.2.1, Int.toNat_natCast] at lc
        have d1 : ((rz S 28 l).toNat * 61 + (t + (lz S 1 48 l).toNat)) / 61 = (rz S 28 l).toNat := by omega
        have d2 : ((rz S 28 l).toNat * 61 + (t + (lz S 1 48 l).toNat)) % 61 = t + (lz S 1 48 l).toNat := by omega
        have r1 := lc.2 (by rw [d1]) (by rw [d2]; omega) (by rw [d2, Nat.add_sub_cancel]; exact hE)
        rw [d2, Nat.add_sub_cancel] at r1
        exact r1 hR
    · show decide (cb2 (r * 61 + 0) = -6) = false
      rw [decide_eq_false_iff_not]
      exact a2 r hr hn
  · subst c1 c2
    exact ⟨⟨smz (by omega) (by omega), smz (by omega) (by omega)⟩, fun z => by omega, fun _ => hp1 cf2 cb2 wv2 wn2 rk2 p q a1 c3 c4 c5⟩
end FW2
