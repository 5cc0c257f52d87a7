/-! THE CLASS'S OUT AND LAST -/
abbrev FT := Int × (Nat → Int) × (Nat → Int) × (Nat → Int) × (Nat → Int) × (Nat → Int) × Int × Int × Int × (Nat → Int) × (Nat → Int) × (Nat → Int) × (Nat → Int) × (Nat → Int) × (Nat → Int) × Int × Int
def FIt (u : FT) : Prop := FI u.2.1 u.2.2.1 u.2.2.2.2.1 u.2.2.2.1 u.2.2.2.2.2.1
theorem sp_within {a b c : Int} (ha : sm a) (hb : sm b) (hc : sm c) {post : Int → Unit → Prop} (h1 : b ≤ a → a ≤ c → post 1 ()) (h0 : ¬ (b ≤ a ∧ a ≤ c) → post 0 ()) : iv_X4_isWithin a b c post := by
  rw [iv_X4_isWithin]
  exact ⟨⟨ha, hb⟩, fun z => h0 (by omega), fun z => ⟨⟨hc, ha⟩, fun z2 => h0 (by omega), fun z2 => h1 (by omega) (by omega)⟩⟩
theorem sp_in {a b c : Int} (ha : sm a) (hb : sm b) (hc : sm c) {post : Int → Unit → Prop} (h1 : b ≤ a → a ≤ c → post 1 ()) (h0 : ¬ (b ≤ a ∧ a ≤ c) → post 0 ()) : iv_X5_in a b c post := by
  rw [iv_X5_in]
  exact ⟨⟨ha, hb⟩, fun z => h0 (by omega), fun z => ⟨⟨hc, ha⟩, fun z2 => h0 (by omega), fun z2 => h1 (by omega) (by omega)⟩⟩
theorem sm0 : sm 0 := by unfold sm; omega
theorem sm1 : sm 1 := by unfold sm; omega
/-- a flow over a changed state -/
theorem FS.chg {S S' : Nat → Int} {T T' : Nat} {E nl E' nl' : Nat → Int} (hT : T ≤ T') (h : FS S (suS S) T E nl) (hn : S' 68 = S 68) (hb : S 68 ≤ 10) (hr : ∀ r, r < 6 → S' r = S r ∧ S' (12 + r) = S (12 + r)) (hp : ∀ p, p < 10 → S' (18 + p) = S (18 + p) ∧ S' (28 + p) = S (28 + p) ∧ S' (48 + p) = S (48 + p) ∧ S (38 + p) ≤ S' (38 + p))
    (hs : ∀ p t : Nat, p < 10 → t < 61 → E ((6 + p) * 61 + t) ≠ 0 → (t : Int) < S' (58 + p)) (hE : ∀ e, e < 976 → E' e = E e) (hnl : ∀ r, r < 6 → nl' r = nl r) : FS S' (suS S') T' E' nl' := by
  have esf : sfS S' = sfS S := by
    funext r
    unfold sfS
    refine decide_eq_decide.mpr ⟨fun z => ⟨z.1, by rw [← (hr r z.1).2]; exact z.2⟩, fun z => ⟨z.1, by rw [(hr r z.1).2]; exact z.2⟩⟩
  have esu : ∀ r, r < 6 → suS S' r = suS S r := by
    intro r h6
    unfold suS
    rw [esf, (hr r h6).1]
  have h2 := FL.mono (wd' := lz S' 180 38) (sh' := lz S' 1000 58) h hT (fun l hl => by
    by_cases q : l < 6
    · rw [lz_lo q, lz_lo q]; omega
    · obtain ⟨p, rfl⟩ : ∃ p, l = 6 + p := ⟨l - 6, by omega⟩
      rw [lz_hi, lz_hi]
      exact (hp p (by omega)).2.2.2) (fun e he hne => by
    by_cases q : e / 61 < 6
    · rw [lz_lo q]; omega
    · obtain ⟨p, hp2⟩ : ∃ p, e / 61 = 6 + p := ⟨e / 61 - 6, by omega⟩
      rw [hp2, lz_hi]
      exact hs p (e % 61) (by omega) (by omega) (by rw [show (6 + p) * 61 + e % 61 = e by omega]; exact hne))
  have h3 := FL.congr (fr' := fun l => (rz S' 18 l).toNat) (to' := fun l => (rz S' 28 l).toNat) (ln' := fun l => (lz S' 1 48 l).toNat) (wd' := lz S' 180 38) (sh' := lz S' 1000 58) (by omega) h2 (fun l hl => by
    by_cases q : l < 6
    · simp only [rz_lo q, lz_lo q, and_self]
    · obtain ⟨p, rfl⟩ : ∃ p, l = 6 + p := ⟨l - 6, by omega⟩
      have := hp p (by omega)
      simp only [rz_hi, lz_hi, this.1, this.2.1, this.2.2.1, and_self])
  show FL (6 + (S' 68).toNat) _ _ _ _ _ (sfS S') (suS S') T' E' nl'
  rw [hn, esf]
  obtain ⟨a1, a2, a3, a4, a5⟩ := h3
  refine ⟨fun e he => by rw [hE e he]; exact a1 e he, fun e he hne => a2 e he (by rw [← hE e he]; exact hne), fun e he h6 hl => by rw [hE e he]; exact a3 e he h6 hl, fun r h6 => by rw [hnl r h6, esu r h6]; exact a4 r h6, fun χ hχ => ?_⟩
  rw [sg_congr (g := fun e => E e * cfz (fun l => (rz S' 18 l).toNat) (fun l => (rz S' 28 l).toNat) (fun l => (lz S' 1 48 l).toNat) χ e) (fun e he => by simp only [hE e he]), a5 χ hχ]
  exact sg_congr (fun r h6 => by simp only [hnl r h6, esu r h6])
section CO
variable {S pe : Nat → Int} {m P : Int} {qf qt qw ql qs : Nat → Int} {fl : Int} {F G Wd L Sh : Nat → Int} {fsr fpe fld : Int} {fnl fE La St WE WA : Nat → Int} {ws ww : Int}
theorem sp_out (hPV : PV S) (hq : PQ pe m P qf qt qw ql qs S) (hf : FI F G L Wd Sh) {a1 : Int} (ha : sm a1) {post : Int → FT → Prop}
    (h0 : ∀ u : FT, ¬ (0 ≤ a1 ∧ a1 ≤ 60) → FIt u → post (-2) u) (h1 : ∀ (v : Int) (u : FT), 0 ≤ a1 → a1 ≤ 60 → MS S a1.toNat v → FIt u → post (sg S 6 - v) u) :
    iv_X4_out a1 pe m P qf qt qw ql qs fl F G Wd L Sh fsr fpe fld fnl fE La St WE WA ws ww post := by
  rw [iv_X4_out]
  refine sp_within ha sm0 (smz (by omega) (by omega)) (fun c1 c2 => ?_) (fun c => ?_)
  · refine ⟨⟨sm1, sm0⟩, fun _ => ?_, fun z => absurd z (by decide)⟩
    refine sp_beginS hPV hq hf (fun F G Wd L Sh nl E led hA hl hE hn => ?_)
    obtain ⟨t, rfl⟩ : ∃ t : Nat, a1 = t := ⟨a1.toNat, by omega⟩
    refine sp_leadByS hPV hA (by omega) hl (FS.zero hPV hE hn) (fun led nl E La St WE WA ws ww q1 q2 q3 => ?_)
    rw [q1]
    exact h1 (sg nl 6) _ c1 c2 q3 hA.fi
  · exact ⟨⟨sm0, sm0⟩, fun z => absurd rfl z, fun _ => h0 _ c hf⟩
theorem leadall_L (hPV : PV S) (hA : FAg S F G L Wd Sh) {K : Int → (Nat → Int) → (Nat → Int) → (Nat → Int) → (Nat → Int) → (Nat → Int) → (Nat → Int) → Int → Int → Prop} {post : Int → FT → Prop}
    (hK : ∀ led nl E La St WE WA ws ww, led = sg S 6 - sg nl 6 → FS S (suS S) 60 E nl → ¬ AZ S 60 → K led nl E La St WE WA ws ww)
    (hp : ∀ (k : Nat) led nl E La St WE WA ws ww, led = sg S 6 - sg nl 6 → FS S (suS S) k E nl → sg nl 6 = 0 → k ≤ 60 → AZ S k → (∀ t', t' < k → ¬ AZ S t') → post k (6 + S 68, F, G, Wd, L, Sh, smS S, sg S 6, led, nl, E, La, St, WE, WA, ws, ww)) :
    ∀ (d k : Nat) led nl E La St WE WA ws ww, k + d = 61 → led = sg S 6 - sg nl 6 → FS S (suS S) (min k 60) E nl → (∀ t', t' < k → ¬ AZ S t') → iv_X4_leadAll_L13 K post (6 + S 68) F G Wd L Sh (smS S) (sg S 6) (d + 1) k led nl E La St WE WA ws ww := by
  intro d
  induction d with
  | zero =>
    intro k led nl E La St WE WA ws ww hk hl hF ht
    rw [iv_X4_leadAll_L13]
    have : k = 61 := by omega
    subst this
    exact ⟨⟨smz (by omega) (by omega), smz (by omega) (by omega)⟩, fun _ => hK _ _ _ _ _ _ _ _ _ hl hF (ht 60 (by omega)), fun c => absurd (by omega) c⟩
  | succ d ih =>
    intro k led nl E La St WE WA ws ww hk hl hF ht
    rw [iv_X4_leadAll_L13]
    rw [show min k 60 = k by omega] at hF
    refine ⟨⟨smz (by omega) (by omega), smz (by omega) (by omega)⟩, fun c => by omega, fun _ => ?_⟩
    refine sp_leadsAllByS hPV hA (by omega) hl hF (fun led nl E La St WE WA ws ww q1 q2 q3 q4 => ?_) (fun led nl E La St WE WA ws ww q1 q2 q3 => ?_)
    · exact ⟨⟨sm1, sm0⟩, fun z => absurd z (by decide), fun _ => hp k led nl E La St WE WA ws ww q1 q2 q3 (by omega) q4 ht⟩
    · refine ⟨⟨sm0, sm0⟩, fun _ x hx => ?_, fun z => absurd rfl z⟩
      subst hx
      refine ih (k + 1) led nl E La St WE WA ws ww (by omega) q1 ?_ (fun t' h' q => ?_)
      · exact FL.mono q2 (by omega) (fun _ _ => Int.le_refl _) (fun e he hne => (q2.2.1 e he hne).2.2.1)
      · by_cases z : t' = k
        · subst z; exact q3 q
        · exact ht t' (by omega) q
theorem sp_leadAll (hPV : PV S) (hq : PQ pe m P qf qt qw ql qs S) (hf : FI F G L Wd Sh) {post : Int → FT → Prop}
    (hp : ∀ x F G Wd L Sh led nl E La St WE WA ws ww, FAg S F G L Wd Sh → LV S x → led = sg S 6 - sg nl 6 → (x = -6 → FS S (suS S) 60 E nl) → (∀ t : Nat, x = t → t ≤ 60 ∧ FS S (suS S) t E nl ∧ sg nl 6 = 0) → post x (6 + S 68, F, G, Wd, L, Sh, smS S, sg S 6, led, nl, E, La, St, WE, WA, ws, ww)) :
    iv_X4_leadAll pe m P qf qt qw ql qs fl F G Wd L Sh fsr fpe fld fnl fE La St WE WA ws ww post := by
  rw [iv_X4_leadAll]
  refine sp_beginS hPV hq hf (fun F G Wd L Sh nl E led hA hl hE hn => ?_)
  refine ⟨62, leadall_L hPV hA (fun led nl E La St WE WA ws ww q1 q2 q3 => ?_) (fun k led nl E La St WE WA ws ww q1 q2 q3 q4 q5 q6 => ?_) 61 0 led nl E La St WE WA ws ww (by omega) hl (FS.zero hPV hE hn) (fun t' h' => absurd h' (Nat.not_lt_zero _))⟩
  · exact hp (-6) _ _ _ _ _ _ _ _ _ _ _ _ _ _ hA (Or.inl ⟨rfl, q3⟩) q1 (fun _ => q2) (fun t ht => by omega)
  · refine hp k _ _ _ _ _ _ _ _ _ _ _ _ _ _ hA (Or.inr ⟨k, rfl, q4, q5, q6⟩) q1 (fun z => by omega) (fun t ht => ?_)
    have : t = k := by omega
    subst this
    exact ⟨q4, q2, q3⟩
theorem sp_last (hPV : PV S) (hq : PQ pe m P qf qt qw ql qs S) (hf : FI F G L Wd Sh) {post : Int → FT → Prop} (hp : ∀ (x : Int) (u : FT), LV S x → FIt u → post x u) :
    iv_X4_last pe m P qf qt qw ql qs fl F G Wd L Sh fsr fpe fld fnl fE La St WE WA ws ww post := by
  rw [iv_X4_last]
  exact sp_leadAll hPV hq hf (fun x F G Wd L Sh led nl E La St WE WA ws ww hA hx _ _ _ => hp x _ hx hA.fi)
theorem lastuse_L {K : Prop} {post : Int → Unit → Prop} {p : Nat} {E : Nat → Int} (hp : p < 10) (hE : ∀ e, e < 976 → 0 ≤ E e ∧ E e ≤ 1000) (hK : (∀ t : Nat, t < 61 → E ((6 + p) * 61 + t) = 0) → K) (hpost : ∀ r : Nat, r < 61 → 0 < E ((6 + p) * 61 + r) → (∀ t : Nat, t < 61 → r < t → E ((6 + p) * 61 + t) = 0) → post r ()) :
    ∀ (d : Nat), d ≤ 61 → (∀ t : Nat, t < 61 → d ≤ t → E ((6 + p) * 61 + t) = 0) → iv_X0_lastUse_L11 K post ((6 + p : Int) * 61) E (d + 1) ((d : Int) - 1) := by
  intro d
  induction d with
  | zero =>
    intro hd hz
    rw [iv_X0_lastUse_L11]
    exact ⟨⟨smz (by omega) (by omega), sm0⟩, fun _ => hK (fun t ht => hz t ht (by omega)), fun c => absurd (by omega) c⟩
  | succ d ih =>
    intro hd hz
    rw [iv_X0_lastUse_L11]
    have hb := hE ((6 + p) * 61 + d) (by omega)
    rw [show ((6 + (p : Int)) * 61 + (((d + 1 : Nat) : Int) - 1)).toNat = (6 + p) * 61 + d by omega]
    refine ⟨⟨smz (by omega) (by omega), sm0⟩, fun c => by omega, fun _ => ⟨by omega, ⟨smz (by omega) (by omega), sm0⟩, fun c x hx => ?_, fun c => ?_⟩⟩
    · have : x = (d : Int) - 1 := by omega
      subst this
      refine ih (by omega) (fun t ht h2 => ?_)
      by_cases q : t = d
      · subst q; omega
      · exact hz t ht (by omega)
    · have := hpost d (by omega) (by omega) (fun t ht h2 => hz t ht (by omega))
      rw [show (((d + 1 : Nat) : Int) - 1) = d by omega]
      exact this
theorem sp_lastUse {p : Nat} {E : Nat → Int} (hp : p < 10) (hE : ∀ e, e < 976 → 0 ≤ E e ∧ E e ≤ 1000) {post : Int → Unit → Prop} (h : ∀ s : Nat, s ≤ 61 → (∀ t : Nat, t < 61 → s ≤ t → E ((6 + p) * 61 + t) = 0) → (0 < s → 0 < E ((6 + p) * 61 + (s - 1))) → post ((s : Int) - 1) ()) : iv_X0_lastUse p E post := by
  rw [iv_X0_lastUse]
  intro x hx
  subst hx
  refine ⟨62, lastuse_L hp hE (fun hz => h 0 (by omega) (fun t ht _ => hz t ht) (fun z => absurd z (by omega))) (fun r hr h1 h2 => ?_) 61 (by omega) (fun t ht h2 => by omega)⟩
  have := h (r + 1) (by omega) (fun t ht h3 => h2 t ht (by omega)) (fun _ => h1)
  rw [show (((r + 1 : Nat) : Int) - 1) = r by omega] at this
  exact this
end CO
