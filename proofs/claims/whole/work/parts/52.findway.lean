/-! findWay: a way to a safe room, or a cut -/
section FW
variable {S gs ws nl : Nat → Int} {T : Nat}
/-- a wave's place is looked at: taken-back waiting -/
theorem waitB {cf cb wv : Nat → Int} {wn : Nat} {rk : Nat → Nat} (hPV : PV S) (hT : T ≤ 60) (hEB : ∀ e, e < 976 → 0 ≤ ew gs ws e ∧ ew gs ws e ≤ 1000) (h : WIs S T (ew gs ws) nl cf cb wv wn rk) (hcb : ∀ p, p < 366 → -100 ≤ cb p ∧ cb p ≤ 100) {p : Nat} (hp : p < 366) (hpv : cb p ≠ -6) {v1 : Int} {REC : Int → (Nat → Int) → (Nat → Int) → (Nat → Int) → Int → Prop}
    (hrec : ∀ (cf' cb' wv' : Nat → Int) (wn' : Nat) (rk' : Nat → Nat), WIs S T (ew gs ws) nl cf' cb' wv' wn' rk' → (∀ p, p < 366 → -100 ≤ cb' p ∧ cb' p ≤ 100) → (∀ q, cb q ≠ -6 → cb' q ≠ -6) → wn ≤ wn' → (∀ i, i < wn → wv' i = wv i) → (1 ≤ p % 61 → 0 < ew gs ws (p - 1) → cb' (p - 1) ≠ -6) → REC (v1 + 1) cf' cb' wv' wn') :
    ((zn (p : Int)) ∧ ((sm ((p : Int) - (p : Int) / 61 * 61) ∧ sm 0) ∧ ((((p : Int) - (p : Int) / 61 * 61) ≤ 0 → (∀ x1 : Int, x1 = v1 + 1 → REC x1 cf cb wv wn)) ∧ (¬ ((p : Int) - (p : Int) / 61 * 61) ≤ 0 → ((0 ≤ ((p : Int) - 1) ∧ ((p : Int) - 1) < 366) ∧ ((sm (ws (((p : Int) - 1)).toNat) ∧ sm 0) ∧ (((ws (((p : Int) - 1)).toNat) ≤ 0 → (∀ x1 : Int, x1 = v1 + 1 → REC x1 cf cb wv wn)) ∧ (¬ (ws (((p : Int) - 1)).toNat) ≤ 0 → (iv_X5_come ((p : Int) - 1) p 2 cf cb wv wn (fun (u : (Nat → Int) × (Nat → Int) × (Nat → Int) × Int) => (∀ x1 : Int, x1 = v1 + 1 → REC x1 u.1 u.2.1 u.2.2.1 u.2.2.2))))))))))) := by
  have same := fun z => hrec cf cb wv wn rk h hcb (fun _ y => y) (Nat.le_refl _) (fun _ _ => rfl) z
  have hw := h.2.2 p hp hpv
  refine ⟨by unfold zn; omega, ⟨smz (by omega) (by omega), smz (by omega) (by omega)⟩, fun c x1 hx => by subst hx; exact same (fun z => by omega), fun c => ⟨by omega, ?_⟩⟩
  have he := hEB (p - 1) (by omega)
  have hew : ew gs ws (p - 1) = ws (p - 1) := if_pos (by omega)
  rw [hew] at he
  rw [show ((p : Int) - 1).toNat = p - 1 by omega]
  refine ⟨⟨smz (by omega) (by omega), smz (by omega) (by omega)⟩, fun c2 x1 hx => by subst hx; exact same (fun _ z => by rw [hew] at z; omega), fun c2 => ?_⟩
  rw [show (p : Int) - 1 = ((p - 1 : Nat) : Int) by omega]
  have hr6 : p / 61 < 6 := by omega
  refine sp_come h hcb (by omega) ?_ ?_ (by omega) ?_ (fun cf' cb' wv' wn' rk' g1 g2 g3 g4 g5 g6 x1 hx => ?_)
  · rw [show (p - 1) / 61 = p / 61 by omega]; exact hw.1
  · omega
  · refine Or.inr (Or.inr ⟨p / 61, p % 61 - 1, by omega, by omega, ?_, ?_, ?_, ?_, ?_, ?_⟩)
    · rw [rz_lo hr6, lz_lo hr6, Int.toNat_natCast]
      show (p : Int) = ((p / 61 * 61 + (p % 61 - 1 + 1) : Nat) : Int)
      omega
    · rw [rz_lo hr6, Int.toNat_natCast]; omega
    · rw [lz_lo hr6]
      show p % 61 - 1 + 1 ≤ T
      omega
    · rw [show p / 61 * 61 + (p % 61 - 1) = p - 1 by omega, hew]; omega
    · rw [if_pos hr6]
    · rw [rz_lo hr6, lz_lo hr6, Int.toNat_natCast]
      show p / 61 * 61 + (p % 61 - 1 + 1) < 366 ∧ cb (p / 61 * 61 + (p % 61 - 1 + 1)) ≠ -6
      rw [show p / 61 * 61 + (p % 61 - 1 + 1) = p by omega]
      exact ⟨hp, hpv⟩
  · subst hx
    exact hrec cf' cb' wv' wn' rk' g1 g2 g3 g5 g6 (fun _ _ => g4)
/-- what holds of goal and goalBy while places below k were looked at -/
def GS (S : Nat → Int) (T : Nat) (E cb wv : Nat → Int) (k : Nat) (g gb : Int) : Prop :=
  (g = -6 ∧ ∀ i l, i < k → l < 6 + (S 68).toNat → LCs S T E cb l (wv i).toNat) ∨ (∃ p q : Nat, g = p ∧ gb = q ∧ p < 366 ∧ cb p ≠ -6 ∧ Goalz S T E q p)
theorem wave_L (hPV : PV S) (hT : T ≤ 60) (hEB : ∀ e, e < 976 → 0 ≤ ew gs ws e ∧ ew gs ws e ≤ 1000) (hE2 : ∀ e, e < 976 → ew gs ws e ≠ 0 → sfS S (rz S 18 (e / 61)).toNat = false ∧ e % 61 + (lz S 1 48 (e / 61)).toNat ≤ T) {K : (Nat → Int) → (Nat → Int) → (Nat → Int) → Int → Int → Int → Prop}
    (hK : ∀ (cf cb wv : Nat → Int) (wn : Nat) (rk : Nat → Nat) (g gb : Int), WIs S T (ew gs ws) nl cf cb wv wn rk → (∀ r, r < 6 → 0 < nl r → cb (r * 61) ≠ -6) → ((g = -6 ∧ ∀ i l, i < wn → l < 6 + (S 68).toNat → LCs S T (ew gs ws) cb l (wv i).toNat) ∨ (∃ p q : Nat, g = p ∧ gb = q ∧ p < 366 ∧ cb p ≠ -6 ∧ Goalz S T (ew gs ws) q p)) → K cf cb wv wn g gb) :
    ∀ (d k : Nat) (cf cb wv : Nat → Int) (wn : Nat) (rk : Nat → Nat) (g gb : Int), k + d = 367 → k ≤ wn → WIs S T (ew gs ws) nl cf cb wv wn rk → (∀ p, p < 366 → -100 ≤ cb p ∧ cb p ≤ 100) → (∀ r, r < 6 → 0 < nl r → cb (r * 61) ≠ -6) → GS S T (ew gs ws) cb wv k g gb → iv_X5_findWay_L6 K S gs ws T (d + 1) k cf cb wv wn g gb
  | d, k, cf, cb, wv, wn, rk, g, gb, hd, hk, h, hcb, hsrc, hg => by
    have hcnt : wn ≤ 366 := by
      have h1 := h.1
      have h2 : cntV cb ≤ sg (fun _ => 1) 366 := sg_le (fun i _ => by
        show (if cb i = -6 then (0 : Int) else 1) ≤ 1
        split <;> omega)
      have h3 : ∀ n : Nat, sg (fun _ => (1 : Int)) n = n := by
        intro n
        induction n with
        | zero => rfl
        | succ n ih => rw [sg, ih]; omega
      rw [h3] at h2
      omega
    have hgb : -6 ≤ g ∧ g < 366 := by
      rcases hg with ⟨q, _⟩ | ⟨p, q, q1, _, q3, _⟩ <;> omega
    rw [iv_X5_findWay_L6]
    simp only [Int.toNat_natCast]
    refine ⟨⟨smz (by omega) (by omega), smz (by omega) (by omega)⟩, fun c => ?_, fun c => ⟨⟨smz (by omega) (by omega), smz (by omega) (by omega)⟩, fun c2 => ?_, fun c2 => ⟨by omega, fun x2 hx2 => ?_⟩⟩⟩
    · have : k = wn := by omega
      subst this
      exact hK cf cb wv k rk g gb h hsrc hg
    · refine hK cf cb wv wn rk g gb h hsrc ?_
      rcases hg with ⟨q, _⟩ | q
      · omega
      · exact Or.inr q
    · have hg6 : g = -6 ∧ ∀ i l, i < k → l < 6 + (S 68).toNat → LCs S T (ew gs ws) cb l (wv i).toNat := by
        rcases hg with q | ⟨p, q, q1, _⟩
        · exact q
        · omega
      have hwk := h.2.1 k (by omega)
      obtain ⟨p, hp⟩ : ∃ p : Nat, wv k = p := ⟨(wv k).toNat, by omega⟩
      rw [hp] at hx2
      subst hx2
      rw [hp, Int.toNat_natCast] at hwk
      have hp366 : p < 366 := by omega
      have hsz := hPV.2.2.1
      have hsz0 := hPV.2.1
      match d, hd with
      | 0, hd => exact absurd hd (by omega)
      | d + 1, hd =>
      -- the passages
      have hpass : ∀ {K2 : (Nat → Int) → (Nat → Int) → (Nat → Int) → Int → Int → Int → Prop}, (∀ (cf' cb' wv' : Nat → Int) (wn' : Nat) (rk' : Nat → Nat) (g' gb' : Int), WIs S T (ew gs ws) nl cf' cb' wv' wn' rk' → (∀ p, p < 366 → -100 ≤ cb' p ∧ cb' p ≤ 100) → (∀ q, cb q ≠ -6 → cb' q ≠ -6) → wn ≤ wn' → (∀ i, i < wn → wv' i = wv i) → ((g' = -6 ∧ ∀ q : Nat, (q : Int) < S 68 → LCs S T (ew gs ws) cb' (6 + q) p) ∨ (∃ p q : Nat, g' = p ∧ gb' = q ∧ p < 366 ∧ cb' p ≠ -6 ∧ Goalz S T (ew gs ws) q p)) → K2 cf' cb' wv' wn' g' gb') →
          ∀ (e j : Nat) (cf' cb' wv' : Nat → Int) (wn' : Nat) (rk' : Nat → Nat) (g' gb' : Int), (j : Int) + e = S 68 → WIs S T (ew gs ws) nl cf' cb' wv' wn' rk' → (∀ p, p < 366 → -100 ≤ cb' p ∧ cb' p ≤ 100) → (∀ q, cb q ≠ -6 → cb' q ≠ -6) → wn ≤ wn' → (∀ i, i < wn → wv' i = wv i) → ((g' = -6 ∧ ∀ q : Nat, q < j → LCs S T (ew gs ws) cb' (6 + q) p) ∨ (∃ p q : Nat, g' = p ∧ gb' = q ∧ p < 366 ∧ cb' p ≠ -6 ∧ Goalz S T (ew gs ws) q p)) → iv_X5_findWay_L30 K2 p S gs T (e + 1) j cf' cb' wv' wn' g' gb' := by
        intro K2 hK2 e
        induction e with
        | zero =>
          intro j cf' cb' wv' wn' rk' g' gb' hj a1 a2 a3 a4 a5 a6
          have hgb2 : -6 ≤ g' ∧ g' < 366 := by rcases a6 with ⟨q, _⟩ | ⟨p, q, q1, _, q3, _⟩ <;> omega
          rw [iv_X5_findWay_L30, iv_X5_many]
          refine ⟨⟨smz (by omega) (by omega), smz (by omega) (by omega)⟩, fun _ => hK2 cf' cb' wv' wn' rk' g' gb' a1 a2 a3 a4 a5 ?_, fun z => absurd (by omega) z⟩
          rcases a6 with ⟨q1, q2⟩ | q
          · exact Or.inl ⟨q1, fun q hq => q2 q (by omega)⟩
          · exact Or.inr q
        | succ e ih =>
          intro j cf' cb' wv' wn' rk' g' gb' hj a1 a2 a3 a4 a5 a6
          have hgb2 : -6 ≤ g' ∧ g' < 366 := by rcases a6 with ⟨q, _⟩ | ⟨p, q, q1, _, q3, _⟩ <;> omega
          rw [iv_X5_findWay_L30, iv_X5_many]
          refine ⟨⟨smz (by omega) (by omega), smz (by omega) (by omega)⟩, fun z => by omega, fun _ => ⟨⟨smz (by omega) (by omega), smz (by omega) (by omega)⟩, fun z => hK2 cf' cb' wv' wn' rk' g' gb' a1 a2 a3 a4 a5 ?_, fun z => ?_⟩⟩
          · rcases a6 with ⟨q1, q2⟩ | q
            · omega
            · exact Or.inr q
          · have a7 : g' = -6 ∧ ∀ q : Nat, q < j → LCs S T (ew gs ws) cb' (6 + q) p := by
              rcases a6 with q | ⟨p, q, q1, _⟩
              · exact q
              · omega
            refine sp_byPassage hPV hT hEB hE2 a1 a2 (by omega) hp366 (a3 p hwk.2.2) (fun cf2 cb2 wv2 wn2 rk2 g2 gb2 b1 b2 b3 b4 b5 b6 x hx => ?_)
            subst hx
            refine ih (j + 1) cf2 cb2 wv2 wn2 rk2 g2 gb2 (by omega) b1 b2 (fun q z => b3 q (a3 q z)) (by omega) (fun i hi => (b5 i (by omega)).trans (a5 i hi)) ?_
            rcases b6 with ⟨c1, c2, c3⟩ | ⟨c1, c2, c3⟩
            · refine Or.inl ⟨c1.trans a7.1, fun q hq => ?_⟩
              by_cases y : q = j
              · subst y; exact c3
              · exact (a7.2 q (by omega)).grow b3
            · exact Or.inr ⟨p, j, c1, c2, hp366, b3 p (a3 p hwk.2.2), c3⟩
      refine ⟨(S 68).toNat + 1, hpass (fun cf' cb' wv' wn' rk' g' gb' a1 a2 a3 a4 a5 a6 => ?_) (S 68).toNat 0 cf cb wv wn rk g gb (by omega) h hcb (fun _ z => z) (Nat.le_refl _) (fun _ _ => rfl) (Or.inl ⟨hg6.1, fun q hq => absurd hq (Nat.not_lt_zero q)⟩)⟩
      have hpv' := a3 p hwk.2.2
      have hwp := a1.2.2 p hp366 hpv'
      have hr6 : p / 61 < 6 := by omega
      have hpm : (p : Int) - (p : Int) / 61 * 61 = ((p % 61 : Nat) : Int) := by omega
      -- the end of this place, once both waitings are settled
      have fin : ∀ (cf2 cb2 wv2 : Nat → Int) (wn2 : Nat) (rk2 : Nat → Nat), WIs S T (ew gs ws) nl cf2 cb2 wv2 wn2 rk2 → (∀ p, p < 366 → -100 ≤ cb2 p ∧ cb2 p ≤ 100) → (∀ q, cb' q ≠ -6 → cb2 q ≠ -6) → wn' ≤ wn2 → (∀ i, i < wn' → wv2 i = wv' i) → (p % 61 + 1 ≤ T → cb2 (p + 1) ≠ -6) → (1 ≤ p % 61 → 0 < ew gs ws (p - 1) → cb2 (p - 1) ≠ -6) → iv_X5_findWay_L6 K S gs ws T (d + 1) ((k : Int) + 1) cf2 cb2 wv2 wn2 g' gb' := by
        intro cf2 cb2 wv2 wn2 rk2 b1 b2 b3 b4 b5 b6 b7
        refine wave_L hPV hT hEB hE2 hK d (k + 1) cf2 cb2 wv2 wn2 rk2 g' gb' (by omega) (by omega) b1 b2 (fun r hr z => b3 _ (a3 _ (hsrc r hr z))) ?_
        rcases a6 with ⟨c1, c2⟩ | ⟨p', q', c1, c2, c3, c4, c5⟩
        · refine Or.inl ⟨c1, fun i l hi hl => ?_⟩
          by_cases y : i = k
          · subst y
            rw [b5 i (by omega), a5 i (by omega), hp, Int.toNat_natCast]
            by_cases y6 : l < 6
            · refine ⟨fun z1 z2 z3 z4 => ?_, fun z1 z2 z3 => ?_⟩
              · rw [rz_lo y6, Int.toNat_natCast] at z1
                rw [lz_lo y6] at z3
                rw [rz_lo y6, lz_lo y6, Int.toNat_natCast]
                subst z1
                refine ⟨hwp.1, ?_⟩
                show cb2 (p / 61 * 61 + (p % 61 + 1)) ≠ -6
                rw [show p / 61 * 61 + (p % 61 + 1) = p + 1 by omega]
                exact b6 z3
              · rw [rz_lo y6, Int.toNat_natCast] at z1
                rw [lz_lo y6] at z2 z3
                rw [rz_lo y6, lz_lo y6, Int.toNat_natCast]
                subst z1
                have z2 : 1 ≤ p % 61 := z2
                have z3 : 0 < ew gs ws (p / 61 * 61 + (p % 61 - 1)) := z3
                show cb2 (p / 61 * 61 + (p % 61 - 1)) ≠ -6
                rw [show p / 61 * 61 + (p % 61 - 1) = p - 1 by omega] at z3 ⊢
                exact b7 z2 z3
            · obtain ⟨q, rfl⟩ : ∃ q, l = 6 + q := ⟨l - 6, by omega⟩
              exact (c2 q (by omega)).grow b3
          · have y2 := (hg6.2 i l (by omega) hl).grow (fun q z => b3 q (a3 q z))
            rw [b5 i (by omega), a5 i (by omega)]
            exact y2
        · exact Or.inr ⟨p', q', c1, c2, c3, b3 _ c4, c5⟩
      refine ⟨by unfold zn; omega, ⟨smz (by omega) (by omega), smz (by omega) (by omega)⟩, fun c3 => ?_, fun c3 => ?_⟩
      · exact waitB (REC := fun x cf cb wv wn => iv_X5_findWay_L6 K S gs ws T (d + 1) x cf cb wv wn g' gb') hPV hT hEB a1 a2 hp366 hpv' (fun cf2 cb2 wv2 wn2 rk2 b1 b2 b3 b4 b5 b6 => fin cf2 cb2 wv2 wn2 rk2 b1 b2 b3 b4 b5 (fun z => by omega) b6)
      · rw [show (p : Int) + 1 = ((p + 1 : Nat) : Int) by omega]
        refine sp_come a1 a2 (by omega) ?_ ?_ (by omega) ?_ (fun cf2 cb2 wv2 wn2 rk2 b1 b2 b3 b4 b5 b6 => ?_)
        · rw [show (p + 1) / 61 = p / 61 by omega]; exact hwp.1
        · omega
        · refine Or.inr (Or.inl ⟨p / 61, p % 61, by omega, by omega, ?_, ?_, ?_, ?_, ?_, ?_, ?_⟩)
          · rw [rz_lo hr6, Int.toNat_natCast]; omega
          · rw [rz_lo hr6, lz_lo hr6, Int.toNat_natCast]
            show p + 1 = p / 61 * 61 + (p % 61 + 1)
            omega
          · rw [lz_lo hr6]; omega
          · rw [lz_lo hr6]
            show p % 61 + 1 ≤ T
            omega
          · intro z; omega
          · rw [if_pos hr6]
          · rw [rz_lo hr6, Int.toNat_natCast, show p / 61 * 61 + p % 61 = p by omega]
            exact ⟨hp366, hpv'⟩
        · exact waitB (REC := fun x cf cb wv wn => iv_X5_findWay_L6 K S gs ws T (d + 1) x cf cb wv wn g' gb') hPV hT hEB b1 b2 hp366 (b3 p hpv') (fun cf3 cb3 wv3 wn3 rk3 e1 e2 e3 e4 e5 e6 => fin cf3 cb3 wv3 wn3 rk3 e1 e2 (fun q z => e3 q (b3 q z)) (by omega) (fun i hi => (e5 i (by omega)).trans (b6 i hi)) (fun _ => e3 _ b4) e6)
end FW
