/-! THE REFERENCE'S SEARCH: a wave from where somebody still is -/
def lz (S : Nat → Int) (c : Int) (o : Nat) : Nat → Int := fun l => if l < 6 then c else S (o + (l - 6))
def rz (S : Nat → Int) (o : Nat) : Nat → Int := fun l => if l < 6 then (l : Int) else S (o + (l - 6))
def ew (gs ws : Nat → Int) : Nat → Int := fun e => if e < 366 then ws e else gs (e - 366)
def sfS (S : Nat → Int) : Nat → Bool := fun r => decide (r < 6 ∧ S (12 + r) = 1)
/-- the state's numbers are as they can be -/
def PV (S : Nat → Int) : Prop := (∀ r, r < 6 → 0 ≤ S r ∧ S r ≤ 30 ∧ 1 ≤ S (6 + r) ∧ S (6 + r) ≤ 99 ∧ (S (12 + r) = 0 ∨ S (12 + r) = 1)) ∧ 0 ≤ S 68 ∧ S 68 ≤ 10 ∧
  ∀ p : Nat, (p : Int) < S 68 → 0 ≤ S (18 + p) ∧ S (18 + p) < 6 ∧ 0 ≤ S (28 + p) ∧ S (28 + p) < 6 ∧ S (18 + p) ≠ S (28 + p) ∧ 1 ≤ S (38 + p) ∧ S (38 + p) ≤ 7 ∧ 1 ≤ S (48 + p) ∧ S (48 + p) ≤ 4 ∧ 0 ≤ S (58 + p) ∧ S (58 + p) ≤ 1000
theorem rz_hi {S : Nat → Int} {o q : Nat} : rz S o (6 + q) = S (o + q) := by
  unfold rz
  rw [if_neg (by omega), show 6 + q - 6 = q by omega]
theorem lz_hi {S : Nat → Int} {c : Int} {o q : Nat} : lz S c o (6 + q) = S (o + q) := by
  unfold lz
  rw [if_neg (by omega), show 6 + q - 6 = q by omega]
theorem rz_lo {S : Nat → Int} {o l : Nat} (h : l < 6) : rz S o l = l := if_pos h
theorem lz_lo {S : Nat → Int} {c : Int} {o l : Nat} (h : l < 6) : lz S c o l = c := if_pos h
theorem PV.nv {S : Nat → Int} (h : PV S) : NV (6 + (S 68).toNat) (rz S 18) (rz S 28) (lz S 1 48) (lz S 180 38) (lz S 1000 58) := by
  refine ⟨by omega, by have := h.2.2.1; omega, fun l hl => ?_, fun r hr => ⟨rz_lo hr, rz_lo hr, lz_lo hr, lz_lo hr, lz_lo hr⟩⟩
  by_cases q : l < 6
  · rw [rz_lo q, rz_lo q, lz_lo q, lz_lo q, lz_lo q]
    omega
  · obtain ⟨p, rfl⟩ : ∃ p, l = 6 + p := ⟨l - 6, by omega⟩
    rw [rz_hi, rz_hi, lz_hi, lz_hi, lz_hi]
    have := h.2.2.2 p (by omega)
    omega
theorem ew_goes {gs ws : Nat → Int} {q t : Nat} : ew gs ws ((6 + q) * 61 + t) = gs (61 * q + t) := by
  unfold ew
  rw [if_neg (by omega), show (6 + q) * 61 + t - 366 = 61 * q + t by omega]
theorem ew_waits {gs ws : Nat → Int} {r t : Nat} (h : r < 6) (ht : t < 61) : ew gs ws (r * 61 + t) = ws (r * 61 + t) := if_pos (by omega)
theorem ew_ug {gs ws : Nat → Int} {k : Nat} {z : Int} : ew (uz gs k z) ws = uz (ew gs ws) (366 + k) z := by
  funext e
  show (if e < 366 then ws e else (if e - 366 = k then z else gs (e - 366))) = (if e = 366 + k then z else (if e < 366 then ws e else gs (e - 366)))
  by_cases h : e < 366
  · rw [if_pos h, if_neg (by omega), if_pos h]
  · rw [if_neg h, if_neg h]
    by_cases h2 : e - 366 = k
    · rw [if_pos h2, if_pos (by omega)]
    · rw [if_neg h2, if_neg (by omega)]
theorem ew_uw {gs ws : Nat → Int} {k : Nat} {z : Int} (hk : k < 366) : ew gs (uz ws k z) = uz (ew gs ws) k z := by
  funext e
  show (if e < 366 then (if e = k then z else ws e) else gs (e - 366)) = (if e = k then z else (if e < 366 then ws e else gs (e - 366)))
  by_cases h : e < 366
  · rw [if_pos h, if_pos h]
  · rw [if_neg h, if_neg h, if_neg (by omega)]
/-- how a place was come to: at first, by a lane, or by a lane taken back -/
def SW (nL : Nat) (F G L Wd Sh : Nat → Int) (T : Nat) (E nl : Nat → Int) (fm by9 : Int) (p : Nat) (Q : Nat → Prop) : Prop :=
  (by9 = 0 ∧ fm = -6 ∧ p % 61 = 0 ∧ 0 < nl (p / 61)) ∨
  (∃ l t : Nat, l < nL ∧ t < 61 ∧ fm = (((F l).toNat * 61 + t : Nat) : Int) ∧ p = (G l).toNat * 61 + (t + (L l).toNat) ∧ (t : Int) < Sh l ∧ t + (L l).toNat ≤ T ∧ (6 ≤ l → E (l * 61 + t) < Wd l) ∧ by9 = (if l < 6 then 1 else 10 + ((l : Int) - 6)) ∧ Q ((F l).toNat * 61 + t)) ∨
  (∃ l t : Nat, l < nL ∧ t < 61 ∧ fm = (((G l).toNat * 61 + (t + (L l).toNat) : Nat) : Int) ∧ p = (F l).toNat * 61 + t ∧ t + (L l).toNat ≤ T ∧ 0 < E (l * 61 + t) ∧ by9 = (if l < 6 then 2 else 30 + ((l : Int) - 6)) ∧ Q ((G l).toNat * 61 + (t + (L l).toNat)))
theorem SW.mono {nL : Nat} {F G L Wd Sh : Nat → Int} {T : Nat} {E nl : Nat → Int} {fm by9 : Int} {p : Nat} {Q Q' : Nat → Prop} (h : SW nL F G L Wd Sh T E nl fm by9 p Q) (hQ : ∀ q, Q q → Q' q) : SW nL F G L Wd Sh T E nl fm by9 p Q' := by
  rcases h with h | ⟨l, t, h1, h2, h3, h4, h5, h6, h7, h8, h9⟩ | ⟨l, t, h1, h2, h3, h4, h5, h6, h7, h8⟩
  · exact Or.inl h
  · exact Or.inr (Or.inl ⟨l, t, h1, h2, h3, h4, h5, h6, h7, h8, hQ _ h9⟩)
  · exact Or.inr (Or.inr ⟨l, t, h1, h2, h3, h4, h5, h6, h7, hQ _ h8⟩)
def cntV (cb : Nat → Int) : Int := sg (fun p => if cb p = -6 then 0 else 1) 366
def WI (nL : Nat) (F G L Wd Sh : Nat → Int) (sf : Nat → Bool) (T : Nat) (E nl : Nat → Int) (cf cb wv : Nat → Int) (wn : Nat) (rk : Nat → Nat) : Prop :=
  (wn : Int) = cntV cb ∧ (∀ i, i < wn → 0 ≤ wv i ∧ wv i < 366 ∧ cb (wv i).toNat ≠ -6) ∧
  (∀ p, p < 366 → cb p ≠ -6 → sf (p / 61) = false ∧ p % 61 ≤ T ∧ rk p < wn ∧ wv (rk p) = p ∧ SW nL F G L Wd Sh T E nl (cf p) (cb p) p (fun q => q < 366 ∧ rk q < rk p ∧ cb q ≠ -6))
theorem cntV_lt {cb : Nat → Int} {p : Nat} (hp : p < 366) (h : cb p = -6) : cntV cb < 366 := by
  have h1 := sg_set (f := fun p => if cb p = -6 then (0 : Int) else 1) (g := fun q => if q = p then 1 else if cb q = -6 then 0 else 1) (k := p) hp (fun i _ hne => by simp only [if_neg hne])
  have h2 : sg (fun q => if q = p then (1 : Int) else if cb q = -6 then 0 else 1) 366 ≤ sg (fun _ => 1) 366 := sg_le (fun i _ => by
    show (if i = p then (1 : Int) else if cb i = -6 then 0 else 1) ≤ 1
    split
    · omega
    · split <;> omega)
  have h3 : ∀ n : Nat, sg (fun _ => (1 : Int)) n = n := by
    intro n
    induction n with
    | zero => rfl
    | succ n ih => rw [sg, ih]; omega
  rw [h3] at h2
  rw [h1] at h2
  simp only [h, if_pos] at h2
  unfold cntV
  have h2 : sg (fun p => if cb p = -6 then (0 : Int) else 1) 366 + (1 - 0) ≤ (366 : Nat) := h2
  omega
theorem cntV_set {cb : Nat → Int} {p : Nat} {b : Int} (hp : p < 366) (h : cb p = -6) (hb : b ≠ -6) : cntV (uz cb p b) = cntV cb + 1 := by
  unfold cntV
  rw [sg_set (f := fun p => if cb p = -6 then (0 : Int) else 1) (g := fun q => if uz cb p b q = -6 then 0 else 1) (k := p) hp (fun i _ hne => by simp only [uz_n hne])]
  show _ + ((if uz cb p b p = -6 then 0 else 1) - (if cb p = -6 then 0 else 1)) = _
  rw [uz_s, if_neg hb, if_pos h]
  omega
section Wave
variable {nL : Nat} {F G L Wd Sh : Nat → Int} {sf : Nat → Bool} {T : Nat} {E nl : Nat → Int}
theorem sp_come {cf cb wv : Nat → Int} {wn : Nat} {rk : Nat → Nat} (h : WI nL F G L Wd Sh sf T E nl cf cb wv wn rk) (hcb : ∀ p, p < 366 → -100 ≤ cb p ∧ cb p ≤ 100) {p : Nat} {fm by9 : Int} (hp : p < 366) (hs : sf (p / 61) = false) (ht : p % 61 ≤ T) (hby : by9 ≠ -6 ∧ -100 ≤ by9 ∧ by9 ≤ 100) (hsw : SW nL F G L Wd Sh T E nl fm by9 p (fun q => q < 366 ∧ cb q ≠ -6))
    {post : ((Nat → Int) × (Nat → Int) × (Nat → Int) × Int) → Prop} (hpost : ∀ (cf' cb' wv' : Nat → Int) (wn' : Nat) (rk' : Nat → Nat), WI nL F G L Wd Sh sf T E nl cf' cb' wv' wn' rk' → (∀ p, p < 366 → -100 ≤ cb' p ∧ cb' p ≤ 100) → (∀ q, cb q ≠ -6 → cb' q ≠ -6) → cb' p ≠ -6 → wn ≤ wn' → (∀ i, i < wn → wv' i = wv i) → post (cf', cb', wv', wn')) : iv_X5_come p fm by9 cf cb wv wn post := by
  rw [iv_X5_come]
  simp only [Int.toNat_natCast]
  have hc := hcb p hp
  refine ⟨by omega, ⟨smz (by omega) (by omega), smz (by omega) (by omega)⟩, fun c => hpost cf cb wv wn rk h hcb (fun _ z => z) c (Nat.le_refl _) (fun _ _ => rfl), fun c => ⟨by omega, by omega, ?_⟩⟩
  obtain ⟨h1, h2, h3⟩ := h
  have hlt := cntV_lt hp c
  refine ⟨by omega, ?_⟩
  have hne : ∀ q, cb q ≠ -6 → q ≠ p := fun q z z2 => z (by rw [z2]; exact c)
  have := hpost (uz cf p fm) (uz cb p by9) (uz wv wn p) (wn + 1) (fun q => if q = p then wn else rk q) ⟨by rw [cntV_set hp c hby.1]; omega, fun i hi => ?_, fun q hq hv => ?_⟩ (fun q hq => ?_) (fun q z => by rw [uz_n (hne q z)]; exact z) (by rw [uz_s]; exact hby.1) (by omega) (fun i hi => uz_n (by omega))
  · exact this
  · by_cases z : i = wn
    · subst z
      rw [uz_s, Int.toNat_natCast, uz_s]
      exact ⟨by omega, by omega, hby.1⟩
    · have w := h2 i (by omega)
      rw [uz_n z, uz_n (hne _ w.2.2)]
      exact w
  · by_cases z : q = p
    · subst z
      show sf (q / 61) = false ∧ q % 61 ≤ T ∧ (if q = q then wn else rk q) < wn + 1 ∧ uz wv wn q (if q = q then wn else rk q) = q ∧ _
      rw [if_pos rfl, uz_s, uz_s, uz_s]
      refine ⟨hs, ht, by omega, rfl, hsw.mono (fun a ha => ⟨ha.1, ?_, ?_⟩)⟩
      · show (if a = q then wn else rk a) < (if q = q then wn else rk q)
        rw [if_neg (hne a ha.2), if_pos rfl]
        exact (h3 a ha.1 ha.2).2.2.1
      · rw [uz_n (hne a ha.2)]; exact ha.2
    · rw [uz_n z] at hv
      have w := h3 q hq hv
      show sf (q / 61) = false ∧ q % 61 ≤ T ∧ (if q = p then wn else rk q) < wn + 1 ∧ uz wv wn p (if q = p then wn else rk q) = q ∧ _
      rw [if_neg z, uz_n z, uz_n z, uz_n (by omega)]
      refine ⟨w.1, w.2.1, by omega, w.2.2.2.1, w.2.2.2.2.mono (fun a ha => ⟨ha.1, ?_, ?_⟩)⟩
      · show (if a = p then wn else rk a) < (if q = p then wn else rk q)
        rw [if_neg (hne a ha.2.2), if_neg z]
        exact ha.2.1
      · rw [uz_n (hne a ha.2.2)]; exact ha.2.2
  · by_cases z : q = p
    · subst z; rw [uz_s]; exact hby.2
    · rw [uz_n z]; exact hcb q hq
end Wave
/-- what is known of a lane at a place that was looked at -/
def LC (F G L Wd Sh : Nat → Int) (sf : Nat → Bool) (T : Nat) (E cb : Nat → Int) (l p : Nat) : Prop :=
  ((F l).toNat = p / 61 → ((p % 61 : Nat) : Int) < Sh l → p % 61 + (L l).toNat ≤ T → (6 ≤ l → E (l * 61 + p % 61) < Wd l) → sf (G l).toNat = false ∧ cb ((G l).toNat * 61 + (p % 61 + (L l).toNat)) ≠ -6) ∧
  ((G l).toNat = p / 61 → (L l).toNat ≤ p % 61 → 0 < E (l * 61 + (p % 61 - (L l).toNat)) → cb ((F l).toNat * 61 + (p % 61 - (L l).toNat)) ≠ -6)
theorem LC.grow {F G L Wd Sh : Nat → Int} {sf : Nat → Bool} {T : Nat} {E cb cb' : Nat → Int} {l p : Nat} (h : LC F G L Wd Sh sf T E cb l p) (hg : ∀ q, cb q ≠ -6 → cb' q ≠ -6) : LC F G L Wd Sh sf T E cb' l p :=
  ⟨fun a b c d => ⟨(h.1 a b c d).1, hg _ (h.1 a b c d).2⟩, fun a b c => hg _ (h.2 a b c)⟩
