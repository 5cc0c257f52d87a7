theorem sg_first (f : Nat → Int) : ∀ n, sg f (n + 1) = f 0 + sg (fun i => f (i + 1)) n
  | 0 => by show 0 + f 0 = f 0 + 0; omega
  | n + 1 => by
    show sg f (n + 1) + f (n + 1) = f 0 + (sg (fun i => f (i + 1)) n + f (n + 1))
    rw [sg_first f n]
    omega
/-- the entries of the way, its last step first -/
def enx (ef : Nat) (en : Nat → Nat) : Nat → Nat := fun j => if j = 0 then ef else en (j - 1)
def dx (w : Int) (fw : Nat → Bool) : Nat → Int := fun j => if j = 0 then w else if fw (j - 1) = true then w else -w
abbrev FS (S : Nat → Int) (su : Nat → Int) (T : Nat) (E nl : Nat → Int) : Prop := FL (6 + (S 68).toNat) (fun l => (rz S 18 l).toNat) (fun l => (rz S 28 l).toNat) (fun l => (lz S 1 48 l).toNat) (lz S 180 38) (lz S 1000 58) (sfS S) su T E nl
section FillWay
variable {S nl : Nat → Int} {T : Nat}
theorem fill39 {gs ws cf cb : Nat → Int} {rk : Nat → Nat} (hPV : PV S) (hT : T ≤ 60) (hEB : ∀ e, e < 976 → 0 ≤ ew gs ws e ∧ ew gs ws e ≤ 1000) (hnl : ∀ r, r < 6 → 0 ≤ nl r ∧ nl r ≤ 1000) {p N : Nat} {c en : Nat → Nat} {fw : Nat → Bool} (h : CHNs S T (ew gs ws) nl cf cb rk p N c en fw) {K : Int → Prop} :
    ∀ (d j : Nat) (n : Int), j + d = N → 1 ≤ n → n ≤ 1000 → (∀ w, 1 ≤ w → w ≤ n → w ≤ nl (c N / 61) → (∀ i, j ≤ i → i < N → Frz (lz S 180 38) (ew gs ws) (en i) (fw i) w) → K w) → iv_X5_fillWay_L39 K S gs ws nl cf cb (d + 2) n (c j)
  | 0, j, n, hj, h1, h2, hK => by
    have : j = N := by omega
    subst this
    obtain ⟨c1, c2, c3, c4, c5, c6, c7⟩ := h
    have hc := c2 j (Nat.le_refl j)
    have hb := hnl (c j / 61) (by omega)
    rw [iv_X5_fillWay_L39]
    refine ⟨⟨smz (by omega) (by omega), smz (by omega) (by omega)⟩, fun z => by omega, fun _ => ?_⟩
    rw [iv_X5_roomIn]
    simp only [Int.toNat_natCast]
    refine ⟨by omega, fun x2 hx => ?_⟩
    rw [c4] at hx
    subst hx
    refine ⟨⟨smz (by omega) (by omega), smz (by omega) (by omega)⟩, fun z => absurd rfl z, fun _ => ⟨by unfold zn; omega, by omega, ?_⟩⟩
    rw [show ((c j : Int) / 61).toNat = c j / 61 by omega]
    have hend : ∀ w : Int, -100000 ≤ w → w ≤ 100000 → K w → iv_X5_fillWay_L39 K S gs ws nl cf cb 1 w (-6) := by
      intro w _ _ hw
      rw [iv_X5_fillWay_L39]
      exact ⟨⟨smz (by omega) (by omega), smz (by omega) (by omega)⟩, fun _ => hw, fun z => absurd (by omega) z⟩
    refine ⟨⟨smz (by omega) (by omega), smz (by omega) (by omega)⟩, fun z => ⟨by omega, fun x hx => ?_⟩, fun z => ⟨by omega, fun x hx => ?_⟩⟩
    · rw [c5] at hx
      subst hx
      exact hend n (by omega) (by omega) (hK n h1 (Int.le_refl _) z (fun i q1 q2 => by omega))
    · rw [c5] at hx
      subst hx
      exact hend _ (by omega) (by omega) (hK _ (by omega) (by omega) (Int.le_refl _) (fun i q1 q2 => by omega))
  | d + 1, j, n, hj, h1, h2, hK => by
    have hh := h
    obtain ⟨c1, c2, c3, c4, c5, c6, c7⟩ := hh
    have hc := c2 j (by omega)
    have hc2 := c2 (j + 1) (by omega)
    have hs := c3 j (by omega)
    rw [iv_X5_fillWay_L39]
    refine ⟨⟨smz (by omega) (by omega), smz (by omega) (by omega)⟩, fun z => by omega, fun _ => ?_⟩
    refine sp_roomIn hPV hT hEB hc.1 hc2.1 hs.1 hs.2.2 (fun f f1 f2 f3 => ?_)
    simp only [Int.toNat_natCast]
    refine ⟨⟨smz (by omega) (by omega), smz (by omega) (by omega)⟩, fun z => ⟨by omega, fun x hx => ?_⟩, fun z => ⟨by omega, fun x hx => ?_⟩⟩
    · rw [hs.1] at hx
      subst hx
      refine fill39 hPV hT hEB hnl h d (j + 1) n (by omega) h1 h2 (fun w w1 w2 w3 w4 => hK w w1 w2 w3 (fun i q1 q2 => ?_))
      by_cases y : i = j
      · subst y; exact f3 w (by omega)
      · exact w4 i (by omega) q2
    · rw [hs.1] at hx
      subst hx
      refine fill39 hPV hT hEB hnl h d (j + 1) f (by omega) f1 f2 (fun w w1 w2 w3 w4 => hK w w1 (by omega) w3 (fun i q1 q2 => ?_))
      by_cases y : i = j
      · subst y; exact f3 w w2
      · exact w4 i (by omega) q2
theorem fill99 {E0 cf cb : Nat → Int} {rk : Nat → Nat} (hPV : PV S) (hT : T ≤ 60) {p N : Nat} {c en : Nat → Nat} {fw : Nat → Bool} (h : CHNs S T E0 nl cf cb rk p N c en fw) {w : Int} {ef : Nat} {K : (Nat → Int) → (Nat → Int) → (Nat → Int) → Prop}
    (hK : ∀ gs ws : Nat → Int, ew gs ws = ap E0 (enx ef en) (dx w fw) (N + 1) → K gs ws (uz nl (c N / 61) (nl (c N / 61) - w))) :
    ∀ (d j : Nat) (gs ws : Nat → Int), j + d = N → ew gs ws = ap E0 (enx ef en) (dx w fw) (j + 1) → iv_X5_fillWay_L99 K w cf cb (d + 2) (c j) gs ws nl
  | 0, j, gs, ws, hj, he => by
    have : j = N := by omega
    subst this
    obtain ⟨c1, c2, c3, c4, c5, c6, c7⟩ := h
    have hc := c2 j (Nat.le_refl j)
    rw [iv_X5_fillWay_L99]
    simp only [Int.toNat_natCast]
    refine ⟨⟨smz (by omega) (by omega), smz (by omega) (by omega)⟩, fun z => by omega, fun _ => ⟨by omega, fun x3 hx3 => ?_⟩⟩
    rw [c5] at hx3
    subst hx3
    rw [iv_X5_fill]
    simp only [Int.toNat_natCast]
    refine ⟨by omega, fun x2 hx => ?_⟩
    rw [c4] at hx
    subst hx
    refine ⟨⟨smz (by omega) (by omega), smz (by omega) (by omega)⟩, fun z => absurd rfl z, fun _ => ⟨by unfold zn; omega, by omega, by omega, ?_⟩⟩
    rw [show ((c j : Int) / 61).toNat = c j / 61 by omega]
    rw [iv_X5_fillWay_L99]
    exact ⟨⟨smz (by omega) (by omega), smz (by omega) (by omega)⟩, fun _ => hK gs ws he, fun z => absurd (by omega) z⟩
  | d + 1, j, gs, ws, hj, he => by
    have hh := h
    obtain ⟨c1, c2, c3, c4, c5, c6, c7⟩ := hh
    have hc := c2 j (by omega)
    have hc2 := c2 (j + 1) (by omega)
    have hs := c3 j (by omega)
    rw [iv_X5_fillWay_L99]
    simp only [Int.toNat_natCast]
    refine ⟨⟨smz (by omega) (by omega), smz (by omega) (by omega)⟩, fun z => by omega, fun _ => ⟨by omega, fun x3 hx3 => ?_⟩⟩
    rw [hs.1] at hx3
    subst hx3
    refine sp_fill hPV hT hc.1 hc2.1 hs.1 hs.2.2 (fun gs' ws' hg => ?_)
    refine fill99 hPV hT h hK d (j + 1) gs' ws' (by omega) ?_
    rw [hg, he]
    rw [show ap E0 (enx ef en) (dx w fw) (j + 1 + 1) = uz (ap E0 (enx ef en) (dx w fw) (j + 1)) (enx ef en (j + 1)) (ap E0 (enx ef en) (dx w fw) (j + 1) (enx ef en (j + 1)) + dx w fw (j + 1)) from rfl]
    have e1 : enx ef en (j + 1) = en j := by
      show (if j + 1 = 0 then ef else en (j + 1 - 1)) = en j
      rw [if_neg (by omega), Nat.add_sub_cancel]
    have e2 : dx w fw (j + 1) = if fw j = true then w else -w := by
      show (if j + 1 = 0 then w else if fw (j + 1 - 1) = true then w else -w) = _
      rw [if_neg (by omega), Nat.add_sub_cancel]
    rw [e1, e2]
/-- the flow behind the way -/
theorem CHN.flow {su E0 cf cb : Nat → Int} {rk : Nat → Nat} (hPV : PV S) (hT : T ≤ 60) (hF : FS S su T E0 nl) {p q N : Nat} {c en : Nat → Nat} {fw : Nat → Bool} (h : CHNs S T E0 nl cf cb rk p N c en fw) (hG : Goalz S T E0 q p) {w : Int} (hw : 1 ≤ w) (hwn : w ≤ nl (c N / 61)) (hwg : w ≤ S (38 + q) - E0 ((6 + q) * 61 + p % 61)) (hfr : ∀ i, i < N → Frz (lz S 180 38) E0 (en i) (fw i) w) (hwait : ∀ e, e < 366 → E0 e + w ≤ 100000) :
    FS S su T (ap E0 (enx ((6 + q) * 61 + p % 61) en) (dx w fw) (N + 1)) (uz nl (c N / 61) (nl (c N / 61) - w)) := by
  have hNV := hPV.nv
  have hsz := hPV.2.2.1
  obtain ⟨c1, c2, c3, c4, c5, c6, c7⟩ := h
  obtain ⟨g1, g2, g3, g4, g5, g6⟩ := hG
  have v := hPV.2.2.2 q g1
  have hp366 := (c2 0 (by omega)).1
  rw [c1] at hp366
  have hpsf := (c2 0 (by omega)).2
  rw [c1] at hpsf
  have ex0 : enx ((6 + q) * 61 + p % 61) en 0 = (6 + q) * 61 + p % 61 := if_pos rfl
  have exs : ∀ j, enx ((6 + q) * 61 + p % 61) en (j + 1) = en j := fun j => by
    show (if j + 1 = 0 then _ else en (j + 1 - 1)) = en j
    rw [if_neg (by omega), Nat.add_sub_cancel]
  have dx0 : dx w fw 0 = w := if_pos rfl
  have dxs : ∀ j, dx w fw (j + 1) = if fw j = true then w else -w := fun j => by
    show (if j + 1 = 0 then w else if fw (j + 1 - 1) = true then w else -w) = _
    rw [if_neg (by omega), Nat.add_sub_cancel]
  have hdec : ∀ i j, i < j → j ≤ N → rk (c j) < rk (c i) := by
    intro i j
    induction j with
    | zero => intro z; exact absurd z (Nat.not_lt_zero i)
    | succ j ih =>
      intro z1 z2
      have w1 := (c3 j (by omega)).2.1
      by_cases y : i = j
      · subst y; exact w1
      · exact Nat.lt_trans w1 (ih (by omega) (by omega))
  -- what an entry of the way is
  have hen : ∀ j, j < N → en j < 976 ∧ max (rk ((rz S 18 (en j / 61)).toNat * 61 + en j % 61)) (rk ((rz S 28 (en j / 61)).toNat * 61 + (en j % 61 + (lz S 1 48 (en j / 61)).toNat))) = rk (c j) ∧ sfS S (rz S 28 (en j / 61)).toNat = false := by
    intro j hj
    obtain ⟨w1, w2, w3⟩ := c3 j hj
    have s1 := c2 j (by omega)
    have s2 := c2 (j + 1) (by omega)
    rcases w3 with ⟨h0, l, t, h1, h2, h3, h4, h5, h6, h7, h8, h9⟩ | ⟨h0, l, t, h1, h2, h3, h4, h5, h6, h7, h8⟩
    · have hvl := hNV.2.2.1 l h1
      rw [h3, show (l * 61 + t) / 61 = l by omega, show (l * 61 + t) % 61 = t by omega, ← h4, ← h5]
      refine ⟨by omega, by omega, ?_⟩
      have : c j / 61 = (rz S 28 l).toNat := by omega
      rw [← this]; exact s1.2
    · have hvl := hNV.2.2.1 l h1
      rw [h3, show (l * 61 + t) / 61 = l by omega, show (l * 61 + t) % 61 = t by omega, ← h4, ← h5]
      refine ⟨by omega, by omega, ?_⟩
      have : c (j + 1) / 61 = (rz S 28 l).toNat := by omega
      rw [← this]; exact s2.2
  refine FL.aug hF (fun n hn => ?_) (fun i j hi hj he => ?_) (fun n hn => ?_) (by have := (c2 N (Nat.le_refl N)).1; omega) (by omega) hwn (fun χ hχ => ?_)
  · match n, hn with
    | 0, _ => rw [ex0]; omega
    | n + 1, hn => rw [exs]; exact (hen n (by omega)).1
  · match i, j, hi, hj, he with
    | 0, 0, _, _, _ => rfl
    | 0, j + 1, _, hj, he =>
      exfalso
      rw [ex0, exs] at he
      have := (hen j (by omega)).2.2
      rw [← he, show ((6 + q) * 61 + p % 61) / 61 = 6 + q by omega, rz_hi, g6] at this
      exact absurd this (by decide)
    | i + 1, 0, hi, _, he =>
      exfalso
      rw [ex0, exs] at he
      have := (hen i (by omega)).2.2
      rw [he, show ((6 + q) * 61 + p % 61) / 61 = 6 + q by omega, rz_hi, g6] at this
      exact absurd this (by decide)
    | i + 1, j + 1, hi, hj, he =>
      rw [exs, exs] at he
      have e1 := (hen i (by omega)).2.1
      have e2 := (hen j (by omega)).2.1
      rw [he, e2] at e1
      by_cases y : i < j
      · have := hdec i j y (by omega); omega
      · by_cases y2 : j < i
        · have := hdec j i y2 (by omega); omega
        · omega
  · match n, hn with
    | 0, _ =>
      rw [ex0, dx0, show ((6 + q) * 61 + p % 61) / 61 = 6 + q by omega, show ((6 + q) * 61 + p % 61) % 61 = p % 61 by omega]
      have hb := hF.1 ((6 + q) * 61 + p % 61) (by omega)
      refine ⟨by omega, fun _ => ?_, by omega, ?_, ?_, ?_⟩
      · rw [lz_hi]; omega
      · show sfS S (rz S 18 (6 + q)).toNat = false
        rw [rz_hi, g2]; exact hpsf
      · rw [lz_hi]; exact g3
      · show p % 61 + (lz S 1 48 (6 + q)).toNat ≤ T
        rw [lz_hi]; exact g4
    | n + 1, hn =>
      rw [exs, dxs]
      obtain ⟨w1, w2, w3⟩ := c3 n (by omega)
      have hfn := hfr n (by omega)
      have s2 := c2 (n + 1) (by omega)
      have hb := hF.1 (en n) (hen n (by omega)).1
      rcases w3 with ⟨h0, l, t, h1, h2, h3, h4, h5, h6, h7, h8, h9⟩ | ⟨h0, l, t, h1, h2, h3, h4, h5, h6, h7, h8⟩
      · have hvl := hNV.2.2.1 l h1
        rw [if_pos h0]
        refine ⟨by omega, fun z => ?_, ?_⟩
        · have := hfn.1 h0 (by omega); omega
        · rw [h3, show (l * 61 + t) / 61 = l by omega, show (l * 61 + t) % 61 = t by omega]
          refine ⟨h1, ?_, h6, h7⟩
          show sfS S (rz S 18 l).toNat = false
          have : c (n + 1) / 61 = (rz S 18 l).toNat := by omega
          rw [← this]; exact s2.2
      · have hc := hF.2.1 (en n) (hen n (by omega)).1 (by omega)
        have hc3 := hF.2.2.1 (en n) (hen n (by omega)).1
        rw [if_neg (by rw [h0]; decide)]
        have := hfn.2 h0
        refine ⟨by omega, fun z => ?_, hc⟩
        have := hc3 z hc.1
        omega
  · rw [sg_first]
    have hterm : ∀ n, n < N → dx w fw (n + 1) * cfz (fun l => (rz S 18 l).toNat) (fun l => (rz S 28 l).toNat) (fun l => (lz S 1 48 l).toNat) χ (enx ((6 + q) * 61 + p % 61) en (n + 1)) = w * (-(χ (c n / 61) (c n % 61)) - -(χ (c (n + 1) / 61) (c (n + 1) % 61))) := by
      intro n hn
      obtain ⟨w1, w2, w3⟩ := c3 n hn
      have s1 := c2 n (by omega)
      have s2 := c2 (n + 1) (by omega)
      rw [exs, dxs]
      unfold cfz
      rcases w3 with ⟨h0, l, t, h1, h2, h3, h4, h5, h6, h7, h8, h9⟩ | ⟨h0, l, t, h1, h2, h3, h4, h5, h6, h7, h8⟩
      · have hvl := hNV.2.2.1 l h1
        rw [if_pos h0, h3, show (l * 61 + t) / 61 = l by omega, show (l * 61 + t) % 61 = t by omega]
        show w * (χ (rz S 18 l).toNat t - χ (rz S 28 l).toNat (t + (lz S 1 48 l).toNat)) = _
        rw [show c n / 61 = (rz S 28 l).toNat by omega, show c n % 61 = t + (lz S 1 48 l).toNat by omega, show c (n + 1) / 61 = (rz S 18 l).toNat by omega, show c (n + 1) % 61 = t by omega]
        congr 1
        omega
      · have hvl := hNV.2.2.1 l h1
        rw [if_neg (by rw [h0]; decide), h3, show (l * 61 + t) / 61 = l by omega, show (l * 61 + t) % 61 = t by omega]
        show -w * (χ (rz S 18 l).toNat t - χ (rz S 28 l).toNat (t + (lz S 1 48 l).toNat)) = _
        rw [show c n / 61 = (rz S 18 l).toNat by omega, show c n % 61 = t by omega, show c (n + 1) / 61 = (rz S 28 l).toNat by omega, show c (n + 1) % 61 = t + (lz S 1 48 l).toNat by omega]
        rw [Int.neg_mul, ← Int.mul_neg]
        congr 1
        omega
    rw [sg_congr hterm, sg_mulc, sg_tel (fun n => -(χ (c n / 61) (c n % 61))) N, c1, c6, dx0, ex0]
    unfold cfz
    rw [show ((6 + q) * 61 + p % 61) / 61 = 6 + q by omega, show ((6 + q) * 61 + p % 61) % 61 = p % 61 by omega]
    show w * (χ (rz S 18 (6 + q)).toNat (p % 61) - χ (rz S 28 (6 + q)).toNat (p % 61 + (lz S 1 48 (6 + q)).toNat)) + w * (-(χ (p / 61) (p % 61)) - -(χ (c N / 61) 0)) = w * χ (c N / 61) 0
    rw [rz_hi, rz_hi, hχ (S (28 + q)).toNat _ g6, g2, ← Int.mul_add]
    congr 1
    omega
theorem sp_fillWay {su gs ws cf cb wv : Nat → Int} {wn : Nat} {rk : Nat → Nat} (hPV : PV S) (hT : T ≤ 60) (hF : FS S su T (ew gs ws) nl) (hEB : ∀ e, e < 976 → 0 ≤ ew gs ws e ∧ ew gs ws e ≤ 1000) (hnl : ∀ r, r < 6 → 0 ≤ nl r ∧ nl r ≤ 1000) (hW : WIs S T (ew gs ws) nl cf cb wv wn rk) {p q : Nat} (hp : p < 366) (hv : cb p ≠ -6) (hG : Goalz S T (ew gs ws) q p) {post : Int → ((Nat → Int) × (Nat → Int) × (Nat → Int)) → Prop}
    (hpost : ∀ (w : Int) (gs' ws' nl' : Nat → Int), 1 ≤ w → FS S su T (ew gs' ws') nl' → sg nl' 6 = sg nl 6 - w → post w (gs', ws', nl')) : iv_X5_fillWay S gs ws nl cf cb p q post := by
  have hsz := hPV.2.2.1
  have hGG := hG
  obtain ⟨g1, g2, g3, g4, g5, g6⟩ := hG
  have v := hPV.2.2.2 q g1
  have hebg := hEB ((6 + q) * 61 + p % 61) (by omega)
  rw [ew_goes] at hebg g5
  obtain ⟨N, c, en, fw, hC⟩ := hW.chain (rk p) p (Nat.le_refl _) hp hv
  have hC2 := hC
  obtain ⟨c1, c2, c3, c4, c5, c6, c7⟩ := hC2
  rw [iv_X5_fillWay, show ((38 : Int) + (q : Int)).toNat = 38 + q by omega, show (61 : Int) * (q : Int) + ((p : Int) - (p : Int) / 61 * 61) = ((61 * q + p % 61 : Nat) : Int) by omega, Int.toNat_natCast]
  refine ⟨by omega, by unfold zn; omega, by omega, fun x1 hx1 => ⟨N + 2, ?_⟩⟩
  subst hx1
  have hkey := fill39 (K := fun k1_27 => ((zn (p : Int)) ∧ ((0 ≤ ((61 * q + p % 61 : Nat) : Int) ∧ ((61 * q + p % 61 : Nat) : Int) < 610) ∧ ((0 ≤ ((61 * q + p % 61 : Nat) : Int) ∧ ((61 * q + p % 61 : Nat) : Int) < 610) ∧ (∃ n_48, iv_X5_fillWay_L99 (fun m_goes_45 m_waits_46 m_still_47 => post k1_27 (m_goes_45, m_waits_46, m_still_47)) k1_27 cf cb n_48 p (uz gs (61 * q + p % 61) (gs (61 * q + p % 61) + k1_27)) ws nl))))) hPV hT hEB hnl hC N 0 (S (38 + q) - gs (61 * q + p % 61)) (by omega) (by omega) (by omega) (fun w w1 w2 w3 w4 => ?_)
  · rw [c1] at hkey
    exact hkey
  · refine ⟨by unfold zn; omega, by omega, by omega, N + 2, ?_⟩
    have h99 := fill99 (w := w) (ef := (6 + q) * 61 + p % 61) (K := fun m_goes_45 m_waits_46 m_still_47 => post w (m_goes_45, m_waits_46, m_still_47)) hPV hT hC (fun gs' ws' he => ?_) N 0 (uz gs (61 * q + p % 61) (gs (61 * q + p % 61) + w)) ws (by omega) ?_
    · rw [c1] at h99
      exact h99
    · have hfl := CHN.flow hPV hT hF hC hGG w1 w3 (by rw [ew_goes]; exact w2) (fun i hi => w4 i (by omega) hi) (fun e he => by have := hEB e (by omega); omega)
      rw [← he] at hfl
      refine hpost w gs' ws' _ w1 hfl ?_
      rw [sg_set (f := nl) (k := c N / 61) (by have := (c2 N (Nat.le_refl N)).1; omega) (fun i _ hne => uz_n hne), uz_s]
      omega
    · show ew _ ws = uz (ew gs ws) (enx ((6 + q) * 61 + p % 61) en 0) (ew gs ws (enx ((6 + q) * 61 + p % 61) en 0) + dx w fw 0)
      rw [show enx ((6 + q) * 61 + p % 61) en 0 = (6 + q) * 61 + p % 61 from if_pos rfl, show dx w fw 0 = w from if_pos rfl, ew_ug, ew_goes, show 366 + (61 * q + p % 61) = (6 + q) * 61 + p % 61 by omega]
end FillWay
