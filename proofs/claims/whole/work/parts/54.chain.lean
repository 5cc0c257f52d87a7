/-! fillWay: the way that was found, from its end back to where somebody still is -/
def AR (nL : Nat) (F G L Wd Sh : Nat → Int) (T : Nat) (E : Nat → Int) (e : Nat) (fw : Bool) (a b : Nat) (by9 : Int) : Prop :=
  (fw = true ∧ ∃ l t : Nat, l < nL ∧ t < 61 ∧ e = l * 61 + t ∧ b = (F l).toNat * 61 + t ∧ a = (G l).toNat * 61 + (t + (L l).toNat) ∧ (t : Int) < Sh l ∧ t + (L l).toNat ≤ T ∧ (6 ≤ l → E e < Wd l) ∧ by9 = (if l < 6 then 1 else 10 + ((l : Int) - 6))) ∨
  (fw = false ∧ ∃ l t : Nat, l < nL ∧ t < 61 ∧ e = l * 61 + t ∧ b = (G l).toNat * 61 + (t + (L l).toNat) ∧ a = (F l).toNat * 61 + t ∧ t + (L l).toNat ≤ T ∧ 0 < E e ∧ by9 = (if l < 6 then 2 else 30 + ((l : Int) - 6)))
def CHN (nL : Nat) (F G L Wd Sh : Nat → Int) (sf : Nat → Bool) (T : Nat) (E nl : Nat → Int) (cf cb : Nat → Int) (rk : Nat → Nat) (p N : Nat) (c en : Nat → Nat) (fw : Nat → Bool) : Prop :=
  c 0 = p ∧ (∀ j, j ≤ N → c j < 366 ∧ sf (c j / 61) = false) ∧ (∀ j, j < N → cf (c j) = c (j + 1) ∧ rk (c (j + 1)) < rk (c j) ∧ AR nL F G L Wd Sh T E (en j) (fw j) (c j) (c (j + 1)) (cb (c j))) ∧ cb (c N) = 0 ∧ cf (c N) = -6 ∧ c N % 61 = 0 ∧ 0 < nl (c N / 61)
theorem WI.chain {nL : Nat} {F G L Wd Sh : Nat → Int} {sf : Nat → Bool} {T : Nat} {E nl cf cb wv : Nat → Int} {wn : Nat} {rk : Nat → Nat} (h : WI nL F G L Wd Sh sf T E nl cf cb wv wn rk) : ∀ (n p : Nat), rk p ≤ n → p < 366 → cb p ≠ -6 → ∃ (N : Nat) (c en : Nat → Nat) (fw : Nat → Bool), CHN nL F G L Wd Sh sf T E nl cf cb rk p N c en fw := by
  intro n
  induction n with
  | zero =>
    intro p hn hp hv
    have w := h.2.2 p hp hv
    rcases w.2.2.2.2 with q | ⟨l, t, q1, q2, q3, q4, q5, q6, q7, q8, q9⟩ | ⟨l, t, q1, q2, q3, q4, q5, q6, q7, q8⟩
    · exact ⟨0, fun _ => p, fun _ => 0, fun _ => true, rfl, fun _ _ => ⟨hp, w.1⟩, fun j hj => absurd hj (Nat.not_lt_zero j), q.1, q.2.1, q.2.2.1, q.2.2.2⟩
    · omega
    · omega
  | succ n ih =>
    intro p hn hp hv
    have w := h.2.2 p hp hv
    have grow : ∀ (a e : Nat) (f : Bool), cf p = a → a < 366 → rk a < rk p → cb a ≠ -6 → AR nL F G L Wd Sh T E e f p a (cb p) → ∃ (N : Nat) (c en : Nat → Nat) (fw : Nat → Bool), CHN nL F G L Wd Sh sf T E nl cf cb rk p N c en fw := by
      intro a e f h1 h2 h3 h4 h5
      obtain ⟨N, c, en, fw, c1, c2, c3, c4, c5, c6, c7⟩ := ih a (by omega) h2 h4
      refine ⟨N + 1, fun j => if j = 0 then p else c (j - 1), fun j => if j = 0 then e else en (j - 1), fun j => if j = 0 then f else fw (j - 1), if_pos rfl, fun j hj => ?_, fun j hj => ?_, ?_, ?_, ?_, ?_⟩
      · show (if j = 0 then p else c (j - 1)) < 366 ∧ sf ((if j = 0 then p else c (j - 1)) / 61) = false
        by_cases z : j = 0
        · rw [if_pos z]; exact ⟨hp, w.1⟩
        · rw [if_neg z]; exact c2 (j - 1) (by omega)
      · show cf (if j = 0 then p else c (j - 1)) = ((if j + 1 = 0 then p else c (j + 1 - 1) : Nat) : Int) ∧ rk (if j + 1 = 0 then p else c (j + 1 - 1)) < rk (if j = 0 then p else c (j - 1)) ∧ AR nL F G L Wd Sh T E (if j = 0 then e else en (j - 1)) (if j = 0 then f else fw (j - 1)) (if j = 0 then p else c (j - 1)) (if j + 1 = 0 then p else c (j + 1 - 1)) (cb (if j = 0 then p else c (j - 1)))
        rw [if_neg (by omega : ¬ j + 1 = 0), Nat.add_sub_cancel]
        by_cases z : j = 0
        · subst z
          rw [if_pos rfl, if_pos rfl, if_pos rfl, c1]
          exact ⟨h1, h3, h5⟩
        · rw [if_neg z, if_neg z, if_neg z]
          have := c3 (j - 1) (by omega)
          rw [show j - 1 + 1 = j by omega] at this
          exact this
      · show cb (if N + 1 = 0 then p else c (N + 1 - 1)) = 0
        rw [if_neg (by omega), Nat.add_sub_cancel]; exact c4
      · show cf (if N + 1 = 0 then p else c (N + 1 - 1)) = -6
        rw [if_neg (by omega), Nat.add_sub_cancel]; exact c5
      · show (if N + 1 = 0 then p else c (N + 1 - 1)) % 61 = 0
        rw [if_neg (by omega), Nat.add_sub_cancel]; exact c6
      · show 0 < nl ((if N + 1 = 0 then p else c (N + 1 - 1)) / 61)
        rw [if_neg (by omega), Nat.add_sub_cancel]; exact c7
    rcases w.2.2.2.2 with q | ⟨l, t, q1, q2, q3, q4, q5, q6, q7, q8, q9⟩ | ⟨l, t, q1, q2, q3, q4, q5, q6, q7, q8⟩
    · exact ⟨0, fun _ => p, fun _ => 0, fun _ => true, rfl, fun _ _ => ⟨hp, w.1⟩, fun j hj => absurd hj (Nat.not_lt_zero j), q.1, q.2.1, q.2.2.1, q.2.2.2⟩
    · exact grow _ (l * 61 + t) true q3 q9.1 q9.2.1 q9.2.2 (Or.inl ⟨rfl, l, t, q1, q2, rfl, rfl, q4, q5, q6, q7, q8⟩)
    · exact grow _ (l * 61 + t) false q3 q8.1 q8.2.1 q8.2.2 (Or.inr ⟨rfl, l, t, q1, q2, rfl, rfl, q4, q5, q6, q7⟩)
/-- what a step of the way lets through -/
def Frz (Wd : Nat → Int) (E : Nat → Int) (e : Nat) (fw : Bool) (w : Int) : Prop := (fw = true → 6 ≤ e / 61 → w ≤ Wd (e / 61) - E e) ∧ (fw = false → w ≤ E e)
abbrev ARs (S : Nat → Int) (T : Nat) (E : Nat → Int) (e : Nat) (fw : Bool) (a b : Nat) (by9 : Int) : Prop := AR (6 + (S 68).toNat) (rz S 18) (rz S 28) (lz S 1 48) (lz S 180 38) (lz S 1000 58) T E e fw a b by9
abbrev CHNs (S : Nat → Int) (T : Nat) (E nl cf cb : Nat → Int) (rk : Nat → Nat) (p N : Nat) (c en : Nat → Nat) (fw : Nat → Bool) : Prop := CHN (6 + (S 68).toNat) (rz S 18) (rz S 28) (lz S 1 48) (lz S 180 38) (lz S 1000 58) (sfS S) T E nl cf cb rk p N c en fw
section Fill
variable {S nl : Nat → Int} {T : Nat}
theorem sp_roomIn {gs ws cf cb : Nat → Int} (hPV : PV S) (hT : T ≤ 60) (hEB : ∀ e, e < 976 → 0 ≤ ew gs ws e ∧ ew gs ws e ≤ 1000) {a b e : Nat} {fw : Bool} (ha : a < 366) (hb : b < 366) (hcf : cf a = b) (h : ARs S T (ew gs ws) e fw a b (cb a)) {post : Int → Unit → Prop}
    (hp : ∀ f : Int, 1 ≤ f → f ≤ 1000 → (∀ w, w ≤ f → Frz (lz S 180 38) (ew gs ws) e fw w) → post f ()) : iv_X5_roomIn a S gs ws nl cf cb post := by
  have hNV := hPV.nv
  have hsz := hPV.2.2.1
  rw [iv_X5_roomIn]
  simp only [Int.toNat_natCast]
  refine ⟨by omega, fun x2 hx => ?_⟩
  rw [← hx] at h
  rcases h with ⟨h0, l, t, h1, h2, h3, h4, h5, h6, h7, h8, h9⟩ | ⟨h0, l, t, h1, h2, h3, h4, h5, h6, h7, h8⟩
  · have hvl := hNV.2.2.1 l h1
    have he := hEB e (by omega)
    by_cases q : l < 6
    · rw [if_pos q] at h9
      subst h9
      refine ⟨⟨smz (by omega) (by omega), smz (by omega) (by omega)⟩, fun _ => ⟨⟨smz (by omega) (by omega), smz (by omega) (by omega)⟩, fun z => absurd rfl z, fun _ => hp 1000 (by omega) (by omega) (fun w hw => ⟨fun _ z => by omega, fun z => by rw [h0] at z; exact absurd z (by decide)⟩)⟩, fun z => absurd z (by decide)⟩
    · rw [if_neg q] at h9
      obtain ⟨k, rfl⟩ : ∃ k, l = 6 + k := ⟨l - 6, by omega⟩
      rw [lz_hi] at h6 h7 h8
      rw [rz_hi] at h4 h5
      have v := hPV.2.2.2 k (by omega)
      have h8 := h8 (by omega)
      rw [h3, ew_goes] at h8
      have he2 := hEB ((6 + k) * 61 + t) (by omega)
      rw [ew_goes] at he2
      refine ⟨⟨smz (by omega) (by omega), smz (by omega) (by omega)⟩, fun _ => ⟨⟨smz (by omega) (by omega), smz (by omega) (by omega)⟩, fun _ => ⟨⟨smz (by omega) (by omega), smz (by omega) (by omega)⟩, fun _ => ⟨by unfold zn; omega, fun x3 hx3 => ⟨⟨smz (by omega) (by omega), smz (by omega) (by omega)⟩, fun z => by omega, fun _ => ?_⟩⟩, fun z => by omega⟩, fun z => by omega⟩, fun z => by omega⟩
      have e3 : x3 = (k : Int) := by omega
      subst e3
      rw [hcf, show ((38 : Int) + (k : Int)).toNat = 38 + k by omega, show (61 : Int) * (k : Int) + ((b : Int) - (b : Int) / 61 * 61) = ((61 * k + t : Nat) : Int) by omega, Int.toNat_natCast]
      refine ⟨by omega, by omega, by unfold zn; omega, by omega, hp _ (by omega) (by omega) (fun w hw => ⟨fun _ _ => ?_, fun z => by rw [h0] at z; exact absurd z (by decide)⟩)⟩
      rw [h3, show ((6 + k) * 61 + t) / 61 = 6 + k by omega, lz_hi, ew_goes]
      exact hw
  · have hvl := hNV.2.2.1 l h1
    have he := hEB e (by omega)
    by_cases q : l < 6
    · rw [if_pos q] at h8
      rw [rz_lo q, Int.toNat_natCast] at h5
      subst h8
      have hw : ew gs ws e = ws a := by rw [h3, h5]; exact ew_waits q h2
      refine ⟨⟨smz (by omega) (by omega), smz (by omega) (by omega)⟩, fun _ => ⟨⟨smz (by omega) (by omega), smz (by omega) (by omega)⟩, fun _ => ⟨⟨smz (by omega) (by omega), smz (by omega) (by omega)⟩, fun z => absurd rfl z, fun _ => ⟨by omega, hp _ (by omega) (by omega) (fun w hw2 => ⟨fun z => by rw [h0] at z; exact absurd z (by decide), fun _ => by omega⟩)⟩⟩, fun z => absurd z (by decide)⟩, fun z => absurd z (by decide)⟩
    · rw [if_neg q] at h8
      obtain ⟨k, rfl⟩ : ∃ k, l = 6 + k := ⟨l - 6, by omega⟩
      rw [rz_hi] at h4 h5
      have v := hPV.2.2.2 k (by omega)
      have hge : ew gs ws e = gs (61 * k + t) := by rw [h3, ew_goes]
      refine ⟨⟨smz (by omega) (by omega), smz (by omega) (by omega)⟩, fun _ => ⟨⟨smz (by omega) (by omega), smz (by omega) (by omega)⟩, fun _ => ⟨⟨smz (by omega) (by omega), smz (by omega) (by omega)⟩, fun _ => ⟨by unfold zn; omega, fun x3 hx3 => ⟨⟨smz (by omega) (by omega), smz (by omega) (by omega)⟩, fun _ => ?_, fun z => by omega⟩⟩, fun z => by omega⟩, fun z => by omega⟩, fun z => by omega⟩
      have e3 : x3 = (k : Int) := by omega
      subst e3
      rw [show (61 : Int) * (k : Int) + ((a : Int) - (a : Int) / 61 * 61) = ((61 * k + t : Nat) : Int) by omega, Int.toNat_natCast]
      exact ⟨by unfold zn; omega, by omega, hp _ (by omega) (by omega) (fun w hw2 => ⟨fun z => by rw [h0] at z; exact absurd z (by decide), fun _ => by omega⟩)⟩
theorem sp_fill {gs ws cf cb E : Nat → Int} (hPV : PV S) (hT : T ≤ 60) {a b e : Nat} {fw : Bool} {w : Int} (ha : a < 366) (hb : b < 366) (hcf : cf a = b) (h : ARs S T E e fw a b (cb a)) {post : ((Nat → Int) × (Nat → Int) × (Nat → Int)) → Prop}
    (hp : ∀ gs' ws' : Nat → Int, ew gs' ws' = uz (ew gs ws) e (ew gs ws e + (if fw = true then w else -w)) → post (gs', ws', nl)) : iv_X5_fill a w gs ws nl cf cb post := by
  have hNV := hPV.nv
  have hsz := hPV.2.2.1
  rw [iv_X5_fill]
  simp only [Int.toNat_natCast]
  refine ⟨by omega, fun x2 hx => ?_⟩
  rw [← hx] at h
  rcases h with ⟨h0, l, t, h1, h2, h3, h4, h5, h6, h7, h8, h9⟩ | ⟨h0, l, t, h1, h2, h3, h4, h5, h6, h7, h8⟩
  · have hvl := hNV.2.2.1 l h1
    rw [if_pos h0] at hp
    by_cases q : l < 6
    · rw [if_pos q] at h9
      rw [rz_lo q, Int.toNat_natCast] at h4
      subst h9
      have hbe : b = e := by omega
      have hw : ew gs ws e = ws e := if_pos (by omega)
      rw [hcf, hbe, Int.toNat_natCast]
      refine ⟨⟨smz (by omega) (by omega), smz (by omega) (by omega)⟩, fun _ => ⟨⟨smz (by omega) (by omega), smz (by omega) (by omega)⟩, fun z => absurd rfl z, fun _ => ⟨by omega, by omega, by omega, hp _ _ ?_⟩⟩, fun z => absurd z (by decide)⟩
      rw [ew_uw (by omega), hw]
    · rw [if_neg q] at h9
      obtain ⟨k, rfl⟩ : ∃ k, l = 6 + k := ⟨l - 6, by omega⟩
      rw [rz_hi] at h4
      have v := hPV.2.2.2 k (by omega)
      have hge : ew gs ws e = gs (61 * k + t) := by rw [h3, ew_goes]
      refine ⟨⟨smz (by omega) (by omega), smz (by omega) (by omega)⟩, fun _ => ⟨⟨smz (by omega) (by omega), smz (by omega) (by omega)⟩, fun _ => ⟨⟨smz (by omega) (by omega), smz (by omega) (by omega)⟩, fun _ => ⟨⟨smz (by omega) (by omega), smz (by omega) (by omega)⟩, fun z => by omega, fun _ => ?_⟩, fun z => by omega⟩, fun z => by omega⟩, fun z => by omega⟩
      rw [hcf, show (61 : Int) * (x2 - x2 / 10 * 10) + ((b : Int) - (b : Int) / 61 * 61) = ((61 * k + t : Nat) : Int) by omega, Int.toNat_natCast]
      refine ⟨by unfold zn; omega, by omega, by unfold zn; omega, by omega, by omega, hp _ _ ?_⟩
      rw [ew_ug, hge, h3, show 366 + (61 * k + t) = (6 + k) * 61 + t by omega]
  · have hvl := hNV.2.2.1 l h1
    rw [if_neg (by rw [h0]; decide)] at hp
    by_cases q : l < 6
    · rw [if_pos q] at h8
      rw [rz_lo q, Int.toNat_natCast] at h5
      subst h8
      have hbe : a = e := by omega
      have hw : ew gs ws e = ws e := if_pos (by omega)
      rw [hbe]
      refine ⟨⟨smz (by omega) (by omega), smz (by omega) (by omega)⟩, fun _ => ⟨⟨smz (by omega) (by omega), smz (by omega) (by omega)⟩, fun _ => ⟨⟨smz (by omega) (by omega), smz (by omega) (by omega)⟩, fun z => absurd rfl z, fun _ => ⟨by omega, by omega, hp _ _ ?_⟩⟩, fun z => absurd z (by decide)⟩, fun z => absurd z (by decide)⟩
      rw [ew_uw (by omega), hw]
      rfl
    · rw [if_neg q] at h8
      obtain ⟨k, rfl⟩ : ∃ k, l = 6 + k := ⟨l - 6, by omega⟩
      rw [rz_hi] at h5
      have v := hPV.2.2.2 k (by omega)
      have hge : ew gs ws e = gs (61 * k + t) := by rw [h3, ew_goes]
      refine ⟨⟨smz (by omega) (by omega), smz (by omega) (by omega)⟩, fun _ => ⟨⟨smz (by omega) (by omega), smz (by omega) (by omega)⟩, fun _ => ⟨⟨smz (by omega) (by omega), smz (by omega) (by omega)⟩, fun _ => ⟨⟨smz (by omega) (by omega), smz (by omega) (by omega)⟩, fun _ => ?_, fun z => by omega⟩, fun z => by omega⟩, fun z => by omega⟩, fun z => by omega⟩
      rw [show (61 : Int) * (x2 - x2 / 10 * 10) + ((a : Int) - (a : Int) / 61 * 61) = ((61 * k + t : Nat) : Int) by omega, Int.toNat_natCast]
      refine ⟨by unfold zn; omega, by unfold zn; omega, by omega, by omega, hp _ _ ?_⟩
      rw [ew_ug, hge, h3, show 366 + (61 * k + t) = (6 + k) * 61 + t by omega]
      rfl
end Fill
