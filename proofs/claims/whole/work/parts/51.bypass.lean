theorem tn (o q : Nat) : ((o : Int) + (q : Int)).toNat = o + q := by omega
theorem sp_isSafe {S : Nat → Int} {r : Nat} {post : Int → Unit → Prop} (hr : r < 6) (hb : -1000 ≤ S (12 + r) ∧ S (12 + r) ≤ 1000) (hp : post (if sfS S r = true then 1 else 0) ()) : iv_X5_isSafe r S post := by
  rw [iv_X5_isSafe, show ((12 : Int) + (r : Int)).toNat = 12 + r by omega]
  have hd : sfS S r = true ↔ S (12 + r) = 1 := by
    unfold sfS
    rw [decide_eq_true_eq]
    exact ⟨fun z => z.2, fun z => ⟨hr, z⟩⟩
  refine ⟨by omega, ⟨smz (by omega) (by omega), smz (by omega) (by omega)⟩, fun c => ?_, fun c => ?_⟩
  · rw [if_neg (fun z => c (hd.mp z))] at hp; exact hp
  · rw [if_pos (hd.mpr c)] at hp; exact hp
theorem sp_canGo {S gs : Nat → Int} {q t : Nat} {T : Int} {post : Int → Unit → Prop} (hq : q < 10) (ht : t < 61) (hT : 0 ≤ T ∧ T ≤ 60) (h1 : 0 ≤ S (58 + q) ∧ S (58 + q) ≤ 1000) (h2 : 0 ≤ S (38 + q) ∧ S (38 + q) ≤ 1000) (h3 : 0 ≤ S (48 + q) ∧ S (48 + q) ≤ 1000) (h4 : -1000 ≤ gs (61 * q + t) ∧ gs (61 * q + t) ≤ 1000)
    (hp1 : (t : Int) < S (58 + q) → gs (61 * q + t) < S (38 + q) → t + S (48 + q) ≤ T → post 1 ()) (hp0 : ¬ ((t : Int) < S (58 + q) ∧ gs (61 * q + t) < S (38 + q) ∧ t + S (48 + q) ≤ T) → post 0 ()) : iv_X5_canGo q t S gs T post := by
  rw [iv_X5_canGo, show ((58 : Int) + (q : Int)).toNat = 58 + q by omega, show ((38 : Int) + (q : Int)).toNat = 38 + q by omega, show ((48 : Int) + (q : Int)).toNat = 48 + q by omega, show ((61 : Int) * (q : Int) + (t : Int)).toNat = 61 * q + t by omega]
  refine ⟨by omega, ⟨smz (by omega) (by omega), smz (by omega) (by omega)⟩, fun c => hp0 (fun z => by omega), fun c => ⟨by omega, by omega, ⟨smz (by omega) (by omega), smz (by omega) (by omega)⟩, fun c2 => hp0 (fun z => by omega), fun c2 => ⟨by omega, ⟨smz (by omega) (by omega), smz (by omega) (by omega)⟩, fun c3 => hp0 (fun z => by omega), fun c3 => hp1 (by omega) (by omega) (by omega)⟩⟩⟩
def Goalz (S : Nat → Int) (T : Nat) (E : Nat → Int) (q p : Nat) : Prop := (q : Int) < S 68 ∧ (S (18 + q)).toNat = p / 61 ∧ ((p % 61 : Nat) : Int) < S (58 + q) ∧ p % 61 + (S (48 + q)).toNat ≤ T ∧ E ((6 + q) * 61 + p % 61) < S (38 + q) ∧ sfS S (S (28 + q)).toNat = true
abbrev WIs (S : Nat → Int) (T : Nat) (E nl cf cb wv : Nat → Int) (wn : Nat) (rk : Nat → Nat) : Prop := WI (6 + (S 68).toNat) (rz S 18) (rz S 28) (lz S 1 48) (lz S 180 38) (lz S 1000 58) (sfS S) T E nl cf cb wv wn rk
abbrev LCs (S : Nat → Int) (T : Nat) (E cb : Nat → Int) (l p : Nat) : Prop := LC (rz S 18) (rz S 28) (lz S 1 48) (lz S 180 38) (lz S 1000 58) (sfS S) T E cb l p
section ByP
variable {S gs ws nl : Nat → Int} {T : Nat}
theorem tailB (hPV : PV S) (hT : T ≤ 60) (hEB : ∀ e, e < 976 → 0 ≤ ew gs ws e ∧ ew gs ws e ≤ 1000) (hE2 : ∀ e, e < 976 → ew gs ws e ≠ 0 → sfS S (rz S 18 (e / 61)).toNat = false ∧ e % 61 + (lz S 1 48 (e / 61)).toNat ≤ T) {cf cb wv : Nat → Int} {wn : Nat} {rk : Nat → Nat} (h : WIs S T (ew gs ws) nl cf cb wv wn rk) (hcb : ∀ p, p < 366 → -100 ≤ cb p ∧ cb p ≤ 100) {q p : Nat} (hq : (q : Int) < S 68) (hp : p < 366) (hpv : cb p ≠ -6) {g gb : Int} {post : ((Nat → Int) × (Nat → Int) × (Nat → Int) × Int × Int × Int) → Prop}
    (hpost : ∀ (cf' cb' wv' : Nat → Int) (wn' : Nat) (rk' : Nat → Nat), WIs S T (ew gs ws) nl cf' cb' wv' wn' rk' → (∀ p, p < 366 → -100 ≤ cb' p ∧ cb' p ≤ 100) → (∀ q, cb q ≠ -6 → cb' q ≠ -6) → wn ≤ wn' → (∀ i, i < wn → wv' i = wv i) → ((S (28 + q)).toNat = p / 61 → (S (48 + q)).toNat ≤ p % 61 → 0 < ew gs ws ((6 + q) * 61 + (p % 61 - (S (48 + q)).toNat)) → cb' ((S (18 + q)).toNat * 61 + (p % 61 - (S (48 + q)).toNat)) ≠ -6) → post (cf', cb', wv', wn', g, gb)) :
    ((0 ≤ (48 + (q : Int)) ∧ (48 + (q : Int)) < 69) ∧ (∀ x5 : Int, x5 = (((p % 61 : Nat) : Int) - (S ((48 + (q : Int))).toNat)) → ((0 ≤ (28 + (q : Int)) ∧ (28 + (q : Int)) < 69) ∧ ((sm (S ((28 + (q : Int))).toNat) ∧ sm ((p / 61 : Nat) : Int)) ∧ ((¬ (S ((28 + (q : Int))).toNat) = ((p / 61 : Nat) : Int) → post (cf, cb, wv, wn, g, gb)) ∧ ((S ((28 + (q : Int))).toNat) = ((p / 61 : Nat) : Int) → ((sm x5 ∧ sm 0) ∧ ((x5 < 0 → post (cf, cb, wv, wn, g, gb)) ∧ (¬ x5 < 0 → ((0 ≤ ((61 * (q : Int)) + x5) ∧ ((61 * (q : Int)) + x5) < 610) ∧ ((sm (gs (((61 * (q : Int)) + x5)).toNat) ∧ sm 0) ∧ (((gs (((61 * (q : Int)) + x5)).toNat) ≤ 0 → post (cf, cb, wv, wn, g, gb)) ∧ (¬ (gs (((61 * (q : Int)) + x5)).toNat) ≤ 0 → ((0 ≤ (18 + (q : Int)) ∧ (18 + (q : Int)) < 69) ∧ (iv_X5_come ((61 * (S ((18 + (q : Int))).toNat)) + x5) p (30 + (q : Int)) cf cb wv wn (fun u => post (u.1, u.2.1, u.2.2.1, u.2.2.2, g, gb))))))))))))))))) := by
  rw [show ((18 : Int) + (q : Int)).toNat = 18 + q by omega, show ((28 : Int) + (q : Int)).toNat = 28 + q by omega, show ((48 : Int) + (q : Int)).toNat = 48 + q by omega]
  have v := hPV.2.2.2 q hq
  have v10 := hPV.2.2.1
  have same := fun z => hpost cf cb wv wn rk h hcb (fun _ y => y) (Nat.le_refl _) (fun _ _ => rfl) z
  refine ⟨by omega, fun x5 h5 => ⟨by omega, ⟨smz (by omega) (by omega), smz (by omega) (by omega)⟩, fun c => same (fun z => absurd (by omega) c), fun c => ⟨⟨smz (by omega) (by omega), smz (by omega) (by omega)⟩, fun c2 => same (fun _ z => by omega), fun c2 => ?_⟩⟩⟩
  obtain ⟨b, hb⟩ : ∃ b : Nat, x5 = b := ⟨x5.toNat, by omega⟩
  subst hb
  have hbe : b = p % 61 - (S (48 + q)).toNat := by omega
  rw [show ((61 : Int) * (q : Int) + (b : Int)).toNat = 61 * q + b by omega]
  have he := hEB ((6 + q) * 61 + b) (by omega)
  rw [ew_goes] at he
  refine ⟨by omega, ⟨smz (by omega) (by omega), smz (by omega) (by omega)⟩, fun c3 => same (fun _ _ z => by rw [← hbe, ew_goes] at z; omega), fun c3 => ⟨by omega, ?_⟩⟩
  obtain ⟨a, ha⟩ : ∃ a : Nat, S (18 + q) = a := ⟨(S (18 + q)).toNat, by omega⟩
  rw [ha, show (61 : Int) * (a : Int) + (b : Int) = ((a * 61 + b : Nat) : Int) by omega]
  have hE := hE2 ((6 + q) * 61 + b) (by omega) (by rw [ew_goes]; omega)
  rw [show ((6 + q) * 61 + b) / 61 = 6 + q by omega, show ((6 + q) * 61 + b) % 61 = b by omega, rz_hi, lz_hi, ha, Int.toNat_natCast] at hE
  have hpd : p = p / 61 * 61 + p % 61 := by omega
  refine sp_come h hcb (by omega) ?_ ?_ (by omega) ?_ (fun cf' cb' wv' wn' rk' g1 g2 g3 g4 g5 g6 => ?_)
  · rw [show (a * 61 + b) / 61 = a by omega]; exact hE.1
  · omega
  · refine Or.inr (Or.inr ⟨6 + q, b, by omega, by omega, ?_, ?_, ?_, ?_, ?_, ?_⟩)
    · rw [rz_hi, lz_hi]; omega
    · rw [rz_hi, ha]; rfl
    · rw [lz_hi]; exact hE.2
    · rw [ew_goes]; omega
    · rw [if_neg (by omega)]; omega
    · rw [rz_hi, lz_hi, show (S (28 + q)).toNat * 61 + (b + (S (48 + q)).toNat) = p by omega]
      exact ⟨hp, hpv⟩
  · refine hpost cf' cb' wv' wn' rk' g1 g2 g3 g5 g6 (fun _ _ _ => ?_)
    rw [ha, Int.toNat_natCast, ← hbe]
    exact g4
theorem sp_byPassage (hPV : PV S) (hT : T ≤ 60) (hEB : ∀ e, e < 976 → 0 ≤ ew gs ws e ∧ ew gs ws e ≤ 1000) (hE2 : ∀ e, e < 976 → ew gs ws e ≠ 0 → sfS S (rz S 18 (e / 61)).toNat = false ∧ e % 61 + (lz S 1 48 (e / 61)).toNat ≤ T) {cf cb wv : Nat → Int} {wn : Nat} {rk : Nat → Nat} (h : WIs S T (ew gs ws) nl cf cb wv wn rk) (hcb : ∀ p, p < 366 → -100 ≤ cb p ∧ cb p ≤ 100) {q p : Nat} (hq : (q : Int) < S 68) (hp : p < 366) (hpv : cb p ≠ -6) {g gb : Int} {post : ((Nat → Int) × (Nat → Int) × (Nat → Int) × Int × Int × Int) → Prop}
    (hpost : ∀ (cf' cb' wv' : Nat → Int) (wn' : Nat) (rk' : Nat → Nat) (g' gb' : Int), WIs S T (ew gs ws) nl cf' cb' wv' wn' rk' → (∀ p, p < 366 → -100 ≤ cb' p ∧ cb' p ≤ 100) → (∀ q, cb q ≠ -6 → cb' q ≠ -6) → wn ≤ wn' → (∀ i, i < wn → wv' i = wv i) → ((g' = g ∧ gb' = gb ∧ LCs S T (ew gs ws) cb' (6 + q) p) ∨ (g' = p ∧ gb' = q ∧ Goalz S T (ew gs ws) q p)) → post (cf', cb', wv', wn', g', gb')) :
    iv_X5_byPassage q p S gs cf cb wv wn g gb T post := by
  have v := hPV.2.2.2 q hq
  have v10 := hPV.2.2.1
  rw [iv_X5_byPassage]
  refine ⟨by unfold zn; omega, fun x3 h3 => ⟨by unfold zn; omega, fun x4 h4 => ⟨by omega, ?_⟩⟩⟩
  have e3 : x3 = ((p / 61 : Nat) : Int) := by omega
  have e4 : x4 = ((p % 61 : Nat) : Int) := by omega
  subst e3 e4
  have hw := h.2.2 p hp hpv
  have he := hEB ((6 + q) * 61 + p % 61) (by omega)
  rw [ew_goes] at he
  have t18 : ((18 : Int) + (q : Int)).toNat = 18 + q := by omega
  have t28 : ((28 : Int) + (q : Int)).toNat = 28 + q := by omega
  have t48 : ((48 : Int) + (q : Int)).toNat = 48 + q := by omega
  -- the lane at this place, once its going is settled (for cb1) and its taking back
  have fin : ∀ (cf1 cb1 wv1 : Nat → Int) (wn1 : Nat) (rk1 : Nat → Nat), WIs S T (ew gs ws) nl cf1 cb1 wv1 wn1 rk1 → (∀ p, p < 366 → -100 ≤ cb1 p ∧ cb1 p ≤ 100) → (∀ q, cb q ≠ -6 → cb1 q ≠ -6) → wn ≤ wn1 → (∀ i, i < wn → wv1 i = wv i) →
      ((S (18 + q)).toNat = p / 61 → ((p % 61 : Nat) : Int) < S (58 + q) → p % 61 + (S (48 + q)).toNat ≤ T → ew gs ws ((6 + q) * 61 + p % 61) < S (38 + q) → sfS S (S (28 + q)).toNat = false ∧ cb1 ((S (28 + q)).toNat * 61 + (p % 61 + (S (48 + q)).toNat)) ≠ -6) →
      ∀ (cf' cb' wv' : Nat → Int) (wn' : Nat) (rk' : Nat → Nat), WIs S T (ew gs ws) nl cf' cb' wv' wn' rk' → (∀ p, p < 366 → -100 ≤ cb' p ∧ cb' p ≤ 100) → (∀ q, cb1 q ≠ -6 → cb' q ≠ -6) → wn1 ≤ wn' → (∀ i, i < wn1 → wv' i = wv1 i) → ((S (28 + q)).toNat = p / 61 → (S (48 + q)).toNat ≤ p % 61 → 0 < ew gs ws ((6 + q) * 61 + (p % 61 - (S (48 + q)).toNat)) → cb' ((S (18 + q)).toNat * 61 + (p % 61 - (S (48 + q)).toNat)) ≠ -6) → post (cf', cb', wv', wn', g, gb) := by
    intro cf1 cb1 wv1 wn1 rk1 a1 a2 a3 a4 a5 a6 cf' cb' wv' wn' rk' b1 b2 b3 b4 b5 b6
    refine hpost cf' cb' wv' wn' rk' g gb b1 b2 (fun q z => b3 q (a3 q z)) (by omega) (fun i hi => (b5 i (by omega)).trans (a5 i hi)) (Or.inl ⟨rfl, rfl, ?_, ?_⟩)
    · intro z1 z2 z3 z4
      rw [rz_hi] at z1 ⊢
      rw [lz_hi] at z2 z3 z4 ⊢
      have := a6 z1 z2 z3 (z4 (by omega))
      exact ⟨this.1, b3 _ this.2⟩
    · intro z1 z2 z3
      rw [rz_hi] at z1 ⊢
      rw [lz_hi] at z2 z3 ⊢
      exact b6 z1 z2 z3
  refine ⟨⟨by rw [t18]; exact smz (by omega) (by omega), smz (by omega) (by omega)⟩, fun c => ?_, fun c => ?_⟩
  · rw [t18] at c
    exact tailB hPV hT hEB hE2 h hcb hq hp hpv (fin cf cb wv wn rk h hcb (fun _ z => z) (Nat.le_refl _) (fun _ _ => rfl) (fun z => absurd (by omega) c))
  · rw [t18] at c
    refine sp_canGo (by omega) (by omega) (by omega) (by omega) (by omega) (by omega) (by omega) (fun c1 c2 c3 => ⟨⟨smz (by omega) (by omega), smz (by omega) (by omega)⟩, fun z => absurd z (by decide), fun _ => ⟨by omega, ?_⟩⟩) (fun cn => ⟨⟨smz (by omega) (by omega), smz (by omega) (by omega)⟩, fun _ => ?_, fun z => absurd rfl z⟩)
    · obtain ⟨d, hd⟩ : ∃ d : Nat, S (28 + q) = d := ⟨(S (28 + q)).toNat, by omega⟩
      have hbs := (hPV.1 d (by omega)).2.2.2.2
      rw [show iv_X5_isSafe (S ((28 : Int) + (q : Int)).toNat) S = iv_X5_isSafe (d : Int) S from by rw [t28, hd]]
      refine sp_isSafe (by omega) (by omega) ?_
      by_cases hs : sfS S d = true
      · rw [if_pos hs]
        refine ⟨⟨smz (by omega) (by omega), smz (by omega) (by omega)⟩, fun z => absurd z (by decide), fun _ => ?_⟩
        refine tailB (g := p) (gb := q) hPV hT hEB hE2 h hcb hq hp hpv (fun cf' cb' wv' wn' rk' b1 b2 b3 b4 b5 b6 => hpost cf' cb' wv' wn' rk' p q b1 b2 b3 b4 b5 (Or.inr ⟨rfl, rfl, hq, by omega, c1, by omega, by rw [ew_goes]; exact c2, by rw [hd]; exact hs⟩))
      · rw [if_neg hs]
        refine ⟨⟨smz (by omega) (by omega), smz (by omega) (by omega)⟩, fun _ => ⟨by omega, by omega, ?_⟩, fun z => absurd rfl z⟩
        obtain ⟨k, hk⟩ : ∃ k : Nat, S (48 + q) = k := ⟨(S (48 + q)).toNat, by omega⟩
        have ec : 61 * S ((28 : Int) + (q : Int)).toNat + ((p % 61 : Nat) : Int) + S ((48 : Int) + (q : Int)).toNat = ((d * 61 + (p % 61 + k) : Nat) : Int) := by rw [t28, t48, hd, hk]; omega
        rw [ec]
        refine sp_come h hcb (by omega) ?_ ?_ (by omega) ?_ (fun cf1 cb1 wv1 wn1 rk1 g1 g2 g3 g4 g5 g6 => ?_)
        · rw [show (d * 61 + (p % 61 + k)) / 61 = d by omega]; simpa using hs
        · omega
        · refine Or.inr (Or.inl ⟨6 + q, p % 61, by omega, by omega, ?_, ?_, ?_, ?_, ?_, ?_, ?_⟩)
          · rw [rz_hi]; omega
          · rw [rz_hi, lz_hi, hd, hk]; rfl
          · rw [lz_hi]; exact c1
          · rw [lz_hi]; omega
          · intro _; rw [lz_hi, ew_goes]; exact c2
          · rw [if_neg (by omega)]; omega
          · rw [rz_hi, show (S (18 + q)).toNat * 61 + p % 61 = p by omega]
            exact ⟨hp, hpv⟩
        · exact tailB (g := g) (gb := gb) hPV hT hEB hE2 g1 g2 hq hp (g3 p hpv) (fin cf1 cb1 wv1 wn1 rk1 g1 g2 g3 g5 g6 (fun _ _ _ _ => ⟨by rw [hd]; simpa using hs, by rw [hd, hk]; exact g4⟩))
    · exact tailB hPV hT hEB hE2 h hcb hq hp hpv (fin cf cb wv wn rk h hcb (fun _ z => z) (Nat.le_refl _) (fun _ _ => rfl) (fun _ z2 z3 z4 => absurd ⟨z2, by rw [ew_goes] at z4; exact z4, by omega⟩ cn))
end ByP
