/-! the three ways by which a search reaches more places -/
theorem uz_uz {F : Nat → Int} {a : Nat} {x y : Int} : uz (uz F a x) a y = uz F a y := by
  funext j
  by_cases h : j = a
  · subst h; rw [uz_s, uz_s]
  · rw [uz_n h, uz_n h, uz_n h]
theorem uz_id {F : Nat → Int} {a : Nat} : uz F a (F a) = F := by
  funext j
  by_cases h : j = a
  · subst h; rw [uz_s]
  · rw [uz_n h]
theorem smz {z : Int} (h1 : -100000 ≤ z) (h2 : z ≤ 100000) : sm z := by unfold sm; omega
/-- what a search leaves behind it: more reached, or nothing and a fact -/
def Grown (nL : Nat) (F G L Wd Sh : Nat → Int) (sf : Nat → Bool) (goal : Int) (E La : Nat → Int) (P : Prop) (r : Int) (u : (Nat → Int) × (Nat → Int)) : Prop :=
  (∃ rk, SR nL F G L Wd Sh sf goal E u.1 u.2 rk) ∧ (∀ r, r < 6 → La r ≤ u.1 r) ∧ ((r = 0 ∧ u.1 = La ∧ P) ∨ (r = 1 ∧ cntz sf La < cntz sf u.1))
section Reach
variable {nL : Nat} {F G L Wd Sh : Nat → Int} {sf : Nat → Bool} {goal : Int} {E : Nat → Int}
theorem nw_L (hNV : NV nL F G L Wd Sh) (hg : goal ≤ 60) (hEB : ∀ e, e < 976 → 0 ≤ E e ∧ E e ≤ 1000) (hE2 : ∀ e, e < 976 → E e ≠ 0 → sf (F (e / 61)).toNat = false) {La : Nat → Int} {a : Nat} (ha : a < 6) (hla : 0 ≤ La a) {K : Int → (Nat → Int) → Prop}
    (hK : ∀ (k : Int) (S : Nat → Int) (rk : Nat → Nat → Nat), La a ≤ k → k ≤ goal → SR nL F G L Wd Sh sf goal E (uz La a k) S rk → (La a < k → sf a = false) → (k < goal → E (a * 61 + k.toNat) ≤ 0) → K k S) :
    ∀ (d : Nat) (k : Int) (S : Nat → Int) (rk : Nat → Nat → Nat), k + d = goal → La a ≤ k → SR nL F G L Wd Sh sf goal E (uz La a k) S rk → (La a < k → sf a = false) → iv_X0_reachByNotWaiting_L20 K a goal (a * 61) E (d + 1) k S
  | 0, k, S, rk, hd, hk, hS, hs => by
    rw [iv_X0_reachByNotWaiting_L20]
    exact ⟨⟨smz (by omega) (by omega), smz (by omega) (by omega)⟩, fun _ => hK k S rk hk (by omega) hS hs (fun z => by omega), fun c => by omega⟩
  | d + 1, k, S, rk, hd, hk, hS, hs => by
    rw [iv_X0_reachByNotWaiting_L20]
    obtain ⟨k, rfl⟩ : ∃ n : Nat, k = n := ⟨k.toNat, by omega⟩
    have hi : ((a : Int) * 61 + (k : Int)).toNat = a * 61 + k := by omega
    have hb := hEB (a * 61 + k) (by omega)
    rw [hi]
    refine ⟨⟨smz (by omega) (by omega), smz (by omega) (by omega)⟩, fun c => by omega, fun c => ⟨by omega, ⟨smz (by omega) (by omega), smz (by omega) (by omega)⟩, fun c2 => hK k S rk hk (by omega) hS hs (fun z => by rw [Int.toNat_natCast]; exact c2), fun c2 x hx => ?_⟩⟩
    subst hx
    refine ⟨by omega, ?_⟩
    have hv := hNV.2.2.2 a ha
    have hsa : sf a = false := by
      have := hE2 (a * 61 + k) (by omega) (by omega)
      rw [show (a * 61 + k) / 61 = a by omega, hv.1] at this
      exact this
    have hi2 : ((a : Int) * 61 + ((k : Int) + 1)).toNat = a * 61 + (k + 1) := by omega
    rw [hi2]
    obtain ⟨rk', h'⟩ := SR.ext (St' := uz S (a * 61 + (k + 1)) (-((a : Int) + 1))) (nx := -((a : Int) + 1)) hNV hg hS (a := a) (k := k + 1) ha hsa (by rw [uz_s]; omega) (by omega) (Or.inr ⟨a, by have := hNV.1; omega, rfl, hv.2.1, by rw [hv.2.2.1]; omega, by
        rw [hv.2.2.1]
        show 0 < E (a * 61 + (k + 1 - 1))
        rw [Nat.add_sub_cancel]
        omega, by
        rw [hv.2.2.1, hv.1]
        show _ ≤ uz La a (k : Int) a
        rw [uz_s]; omega, trivial⟩) uz_s (fun b q1 q2 => by rw [uz_s] at q1; omega) (fun r t hr ht q => uz_n (by
        rcases q with q | q
        · intro z; omega
        · rw [uz_s] at q; intro z; omega))
    rw [uz_uz] at h'
    exact nw_L hNV hg hEB hE2 ha hla hK d ((k : Int) + 1) _ rk' (by omega) (by omega) h' (fun _ => hsa)
theorem sp_notwait (hNV : NV nL F G L Wd Sh) (hg0 : 0 ≤ goal) (hg : goal ≤ 60) (hEB : ∀ e, e < 976 → 0 ≤ E e ∧ E e ≤ 1000) (hE2 : ∀ e, e < 976 → E e ≠ 0 → sf (F (e / 61)).toNat = false) {La St : Nat → Int} {rk : Nat → Nat → Nat} (hS : SR nL F G L Wd Sh sf goal E La St rk) {a : Nat} (ha : a < 6) {post : Int → ((Nat → Int) × (Nat → Int)) → Prop}
    (hp : ∀ r u, Grown nL F G L Wd Sh sf goal E La (0 ≤ La a → La a < goal → E (a * 61 + (La a).toNat) ≤ 0) r u → post r u) : iv_X0_reachByNotWaiting a goal E La St post := by
  rw [iv_X0_reachByNotWaiting]
  intro x3 h3
  subst h3
  refine ⟨by omega, fun x4 h4 => ?_⟩
  rw [Int.toNat_natCast] at *
  subst h4
  have hb := hS.1 a ha
  refine ⟨⟨smz (by omega) (by omega), smz (by omega) (by omega)⟩, fun c => ?_, fun c => hp _ _ ⟨⟨rk, hS⟩, fun _ _ => Int.le_refl _, Or.inl ⟨rfl, rfl, fun z => absurd z c⟩⟩⟩
  refine ⟨(goal - La a).toNat + 1, nw_L hNV hg hEB hE2 ha c (fun k S rk' h1 h2 h3 h4 h5 => ?_) _ _ _ rk (by omega) (Int.le_refl _) (by rw [uz_id]; exact hS) (fun z => by omega)⟩
  have hm : ∀ r, r < 6 → La r ≤ uz La a k r := by
    intro r hr
    by_cases q : r = a
    · subst q; rw [uz_s]; exact h1
    · rw [uz_n q]; exact Int.le_refl _
  refine ⟨by omega, ⟨smz (by omega) (by omega), smz (by omega) (by omega)⟩, fun c2 => ⟨by omega, hp _ _ ⟨⟨rk', h3⟩, hm, Or.inl ⟨rfl, ?_, ?_⟩⟩⟩, fun c2 => ⟨by omega, hp _ _ ⟨⟨rk', h3⟩, hm, Or.inr ⟨rfl, ?_⟩⟩⟩⟩
  · have : k = La a := by omega
    subst this
    exact uz_id
  · have : k = La a := by omega
    subst this
    exact fun _ z => h5 z
  · show cntz sf La < cntz sf (uz La a k)
    rw [cnt_set ha (h4 (by omega))]
    omega
theorem en_L (hNV : NV nL F G L Wd Sh) (hg : goal ≤ 60) (hEB : ∀ e, e < 976 → 0 ≤ E e ∧ E e ≤ 1000) {La St : Nat → Int} {rk : Nat → Nat → Nat} (hS : SR nL F G L Wd Sh sf goal E La St rk) {l a : Nat} (hl : l < nL) (hl6 : 6 ≤ l) (hF : F l = a) (hsa : sf a = false) {K : Prop} {post : Int → ((Nat → Int) × (Nat → Int)) → Prop}
    (hK : (∀ t : Nat, La a < t → (t : Int) < Sh l → t + L l ≤ La (G l).toNat → Wd l ≤ E (l * 61 + t)) → K) (hp : ∀ u, (∃ rk, SR nL F G L Wd Sh sf goal E u.1 u.2 rk) → (∀ r, r < 6 → La r ≤ u.1 r) → cntz sf La < cntz sf u.1 → post 1 u) :
    ∀ (d : Nat) (v : Int), v ≤ La a + d → v < Sh l → v + L l ≤ La (G l).toNat → (∀ t : Nat, v < t → (t : Int) < Sh l → t + L l ≤ La (G l).toNat → Wd l ≤ E (l * 61 + t)) → -10000 ≤ v → iv_X0_reachByEntering_L43 K post l (l * 61) a Wd E La St (d + 1) v
  | d, v, hd, h1, h2, hinv, hlow => by
    have hvl := hNV.2.2.1 l hl
    have hn := hNV.2.1
    have ha : a < 6 := by omega
    have hba := hS.1 a ha
    have hbg := hS.1 (G l).toNat (by omega)
    rw [iv_X0_reachByEntering_L43, Int.toNat_natCast, Int.toNat_natCast]
    refine ⟨by omega, ⟨smz (by omega) (by omega), smz (by omega) (by omega)⟩, fun c => hK (fun t q1 q2 q3 => hinv t (by omega) q2 q3), fun c => ?_⟩
    obtain ⟨v, rfl⟩ : ∃ n : Nat, v = n := ⟨v.toNat, by omega⟩
    have hi : ((l : Int) * 61 + (v : Int)).toNat = l * 61 + v := by omega
    have hb := hEB (l * 61 + v) (by omega)
    rw [hi]
    refine ⟨by omega, by omega, ⟨smz (by omega) (by omega), smz (by omega) (by omega)⟩, fun c2 x hx => ?_, fun c2 => ?_⟩
    · subst hx
      match d, hd with
      | 0, hd => exact absurd hd (by omega)
      | d + 1, hd =>
        refine en_L hNV hg hEB hS hl hl6 hF hsa hK hp d ((v : Int) + -1) (by omega) (by omega) (by omega) (fun t q1 q2 q3 => ?_) (by omega)
        by_cases q : t = v
        · subst q; exact c2
        · exact hinv t (by omega) q2 q3
    · refine sp_reach ha (by omega) (by omega) (by omega) (fun S' e1 e2 e3 => ?_)
      have hx := SR.ext (St' := S') (nx := (l : Int) + 1) hNV hg hS (a := a) (k := v) ha hsa (by omega) (by omega) (Or.inl ⟨l, hl, rfl, hF, h1, h2, fun _ => by omega, trivial⟩) e1 e2 e3
      refine hp (uz La a v, S') hx (fun r hr => ?_) ?_
      · by_cases q : r = a
        · subst q; show _ ≤ uz La r v r; rw [uz_s]; omega
        · show _ ≤ uz La a v r; rw [uz_n q]; exact Int.le_refl _
      · show cntz sf La < cntz sf (uz La a v)
        rw [cnt_set ha hsa]
        omega
theorem sp_enter (hNV : NV nL F G L Wd Sh) (hg0 : 0 ≤ goal) (hg : goal ≤ 60) (hEB : ∀ e, e < 976 → 0 ≤ E e ∧ E e ≤ 1000) {La St : Nat → Int} {rk : Nat → Nat → Nat} (hS : SR nL F G L Wd Sh sf goal E La St rk) {l : Nat} (hl : l < nL) (hl6 : 6 ≤ l) (hsa : sf (F l).toNat = false) {post : Int → ((Nat → Int) × (Nat → Int)) → Prop}
    (hp : ∀ r u, Grown nL F G L Wd Sh sf goal E La (∀ t : Nat, La (F l).toNat < t → (t : Int) < Sh l → t + L l ≤ La (G l).toNat → Wd l ≤ E (l * 61 + t)) r u → post r u) : iv_X0_reachByEntering l F G Wd L Sh E La St post := by
  have hvl := hNV.2.2.1 l hl
  have hn := hNV.2.1
  obtain ⟨a, hF⟩ : ∃ a : Nat, F l = a := ⟨(F l).toNat, by omega⟩
  rw [hF, Int.toNat_natCast] at hp hsa
  have hba := hS.1 a (by omega)
  have hbg := hS.1 (G l).toNat (by omega)
  rw [iv_X0_reachByEntering]
  intro x2 h2
  subst h2
  refine ⟨by omega, fun x3 h3 => ?_⟩
  rw [Int.toNat_natCast] at *
  rw [hF] at h3
  subst h3
  refine ⟨by omega, by omega, by omega, by omega, ⟨smz (by omega) (by omega), smz (by omega) (by omega)⟩, fun x4 h4 => ?_⟩
  have h5 : x4 < Sh l ∧ x4 + L l ≤ La (G l).toNat ∧ -10000 ≤ x4 ∧ (∀ t : Int, x4 < t → ¬ (t < Sh l ∧ t + L l ≤ La (G l).toNat)) := by
    by_cases q : Sh l - 1 < La (G l).toNat - L l
    · rw [if_pos q] at h4; exact ⟨by omega, by omega, by omega, fun t q1 => by omega⟩
    · rw [if_neg q] at h4; exact ⟨by omega, by omega, by omega, fun t q1 => by omega⟩
  refine ⟨(x4 - La a).toNat + 1, en_L hNV hg hEB hS hl hl6 hF hsa (fun hc => hp _ _ ⟨⟨rk, hS⟩, fun _ _ => Int.le_refl _, Or.inl ⟨rfl, rfl, hc⟩⟩) (fun u q1 q2 q3 => hp _ _ ⟨q1, q2, Or.inr ⟨rfl, q3⟩⟩) _ _ (by omega) h5.1 h5.2.1 (fun t q1 q2 q3 => absurd ⟨q2, q3⟩ (h5.2.2.2 t q1)) h5.2.2.1⟩
theorem bk_L (hNV : NV nL F G L Wd Sh) (hg : goal ≤ 60) (hEB : ∀ e, e < 976 → 0 ≤ E e ∧ E e ≤ 1000) {La St : Nat → Int} {rk : Nat → Nat → Nat} (hS : SR nL F G L Wd Sh sf goal E La St rk) {l b : Nat} (hl : l < nL) (hl6 : 6 ≤ l) (hG : G l = b) {K : Prop} {post : Int → ((Nat → Int) × (Nat → Int)) → Prop}
    (hK : (∀ t : Nat, t ≤ La (F l).toNat → t + L l ≤ goal → La b < t + L l → E (l * 61 + t) ≤ 0) → K) (hp : ∀ u, (∃ rk, SR nL F G L Wd Sh sf goal E u.1 u.2 rk) → (∀ r, r < 6 → La r ≤ u.1 r) → cntz sf La < cntz sf u.1 → post 1 u) :
    ∀ (d : Nat) (v : Int), v + 1 ≤ d → v ≤ La (F l).toNat → v + L l ≤ goal → (∀ t : Nat, v < t → t ≤ La (F l).toNat → t + L l ≤ goal → La b < t + L l → E (l * 61 + t) ≤ 0) → -10000 ≤ v → iv_X0_reachByTakingBack_L37 K post l (l * 61) b L E La St (d + 1) v
  | d, v, hd, h1, h2, hinv, hlow => by
    have hvl := hNV.2.2.1 l hl
    have hn := hNV.2.1
    have hb6 : b < 6 := by omega
    have hbb := hS.1 b hb6
    have hbf := hS.1 (F l).toNat (by omega)
    rw [iv_X0_reachByTakingBack_L37, Int.toNat_natCast, Int.toNat_natCast]
    refine ⟨⟨smz (by omega) (by omega), smz (by omega) (by omega)⟩, fun c => hK (fun t q1 q2 q3 => hinv t (by omega) q1 q2 q3), fun c => ?_⟩
    obtain ⟨v, rfl⟩ : ∃ n : Nat, v = n := ⟨v.toNat, by omega⟩
    refine ⟨by omega, by omega, ⟨smz (by omega) (by omega), smz (by omega) (by omega)⟩, fun c2 => hK (fun t q1 q2 q3 => hinv t (by omega) q1 q2 q3), fun c2 => ?_⟩
    have hi : ((l : Int) * 61 + (v : Int)).toNat = l * 61 + v := by omega
    have hb := hEB (l * 61 + v) (by omega)
    rw [hi]
    refine ⟨by omega, ⟨smz (by omega) (by omega), smz (by omega) (by omega)⟩, fun c3 x hx => ?_, fun c3 => ⟨by omega, ?_⟩⟩
    · subst hx
      match d, hd with
      | 0, hd => exact absurd hd (by omega)
      | d + 1, hd =>
        refine bk_L hNV hg hEB hS hl hl6 hG hK hp d ((v : Int) + -1) (by omega) (by omega) (by omega) (fun t q1 q2 q3 q4 => ?_) (by omega)
        by_cases q : t = v
        · subst q; exact c3
        · exact hinv t (by omega) q2 q3 q4
    · have hsb : sf b = false := by
        by_cases q : sf b = true
        · have := hbb.1 q; omega
        · simpa using q
      obtain ⟨k, hk⟩ : ∃ k : Nat, (v : Int) + L l = k := ⟨((v : Int) + L l).toNat, by omega⟩
      rw [hk]
      refine sp_reach hb6 (by omega) (by omega) (by omega) (fun S' e1 e2 e3 => ?_)
      have hx := SR.ext (St' := S') (nx := -((l : Int) + 1)) hNV hg hS (a := b) (k := k) hb6 hsb (by omega) (by omega) (Or.inr ⟨l, hl, rfl, hG, by omega, by
        rw [show k - (L l).toNat = v by omega]; omega, by omega, trivial⟩) e1 e2 e3
      refine hp (uz La b k, S') hx (fun r hr => ?_) ?_
      · by_cases q : r = b
        · subst q; show _ ≤ uz La r k r; rw [uz_s]; omega
        · show _ ≤ uz La b k r; rw [uz_n q]; exact Int.le_refl _
      · show cntz sf La < cntz sf (uz La b k)
        rw [cnt_set hb6 hsb]
        omega
theorem sp_back (hNV : NV nL F G L Wd Sh) (hg0 : 0 ≤ goal) (hg : goal ≤ 60) (hEB : ∀ e, e < 976 → 0 ≤ E e ∧ E e ≤ 1000) {La St : Nat → Int} {rk : Nat → Nat → Nat} (hS : SR nL F G L Wd Sh sf goal E La St rk) {l : Nat} (hl : l < nL) (hl6 : 6 ≤ l) {post : Int → ((Nat → Int) × (Nat → Int)) → Prop}
    (hp : ∀ r u, Grown nL F G L Wd Sh sf goal E La (∀ t : Nat, t ≤ La (F l).toNat → t + L l ≤ goal → La (G l).toNat < t + L l → E (l * 61 + t) ≤ 0) r u → post r u) : iv_X0_reachByTakingBack l goal F G L E La St post := by
  have hvl := hNV.2.2.1 l hl
  have hn := hNV.2.1
  obtain ⟨b, hG⟩ : ∃ a : Nat, G l = a := ⟨(G l).toNat, by omega⟩
  rw [hG, Int.toNat_natCast] at hp
  have hbb := hS.1 b (by omega)
  have hbf := hS.1 (F l).toNat (by omega)
  rw [iv_X0_reachByTakingBack]
  intro x2 h2
  subst h2
  refine ⟨by omega, fun x3 h3 => ?_⟩
  rw [Int.toNat_natCast] at *
  rw [hG] at h3
  subst h3
  refine ⟨by omega, by omega, by omega, ⟨smz (by omega) (by omega), smz (by omega) (by omega)⟩, fun x4 h4 => ?_⟩
  have h5 : x4 ≤ La (F l).toNat ∧ x4 + L l ≤ goal ∧ -10000 ≤ x4 ∧ (∀ t : Int, x4 < t → ¬ (t ≤ La (F l).toNat ∧ t + L l ≤ goal)) := by
    by_cases q : goal - L l < La (F l).toNat
    · rw [if_pos q] at h4; exact ⟨by omega, by omega, by omega, fun t q1 => by omega⟩
    · rw [if_neg q] at h4; exact ⟨by omega, by omega, by omega, fun t q1 => by omega⟩
  refine ⟨(x4 + 1).toNat + 1, bk_L hNV hg hEB hS hl hl6 hG (fun hc => hp _ _ ⟨⟨rk, hS⟩, fun _ _ => Int.le_refl _, Or.inl ⟨rfl, rfl, hc⟩⟩) (fun u q1 q2 q3 => hp _ _ ⟨q1, q2, Or.inr ⟨rfl, q3⟩⟩) _ _ (by omega) h5.1 h5.2.1 (fun t q1 q2 q3 q4 => absurd ⟨q2, q3⟩ (h5.2.2.2 t q1)) h5.2.2.1⟩
end Reach
