/-! THE NET: flows over (room, tick), their sums against any potential; the greatest flow by a cut -/
def sg (f : Nat → Int) : Nat → Int
  | 0 => 0
  | n + 1 => sg f n + f n
theorem sg_congr {f g : Nat → Int} : ∀ {n : Nat}, (∀ i, i < n → f i = g i) → sg f n = sg g n
  | 0, _ => rfl
  | n + 1, h => by
    rw [sg, sg, sg_congr (fun i hi => h i (by omega)), h n (by omega)]
theorem sg_le {f g : Nat → Int} : ∀ {n : Nat}, (∀ i, i < n → f i ≤ g i) → sg f n ≤ sg g n
  | 0, _ => Int.le_refl _
  | n + 1, h => by
    have h1 := sg_le (n := n) (fun i hi => h i (by omega))
    have h2 := h n (by omega)
    rw [sg, sg]
    omega
theorem sg_nonneg {f : Nat → Int} : ∀ {n : Nat}, (∀ i, i < n → 0 ≤ f i) → 0 ≤ sg f n
  | 0, _ => Int.le_refl _
  | n + 1, h => by
    have h1 := sg_nonneg (n := n) (fun i hi => h i (by omega))
    have h2 := h n (by omega)
    rw [sg]
    omega
theorem sg_ge_one {f : Nat → Int} {k : Nat} : ∀ {n : Nat}, k < n → (∀ i, i < n → 0 ≤ f i) → f k ≤ sg f n
  | 0, h, _ => absurd h (Nat.not_lt_zero k)
  | n + 1, hk, h => by
    rw [sg]
    by_cases q : k = n
    · subst q
      have h1 := sg_nonneg (n := k) (fun i hi => h i (by omega))
      omega
    · have h1 := sg_ge_one (k := k) (n := n) (by omega) (fun i hi => h i (by omega))
      have h2 := h n (by omega)
      omega
theorem sg_add (f g : Nat → Int) : ∀ n, sg (fun i => f i + g i) n = sg f n + sg g n
  | 0 => rfl
  | n + 1 => by
    rw [sg, sg, sg, sg_add f g n]
    omega
theorem sg_sub (f g : Nat → Int) : ∀ n, sg (fun i => f i - g i) n = sg f n - sg g n
  | 0 => rfl
  | n + 1 => by
    rw [sg, sg, sg, sg_sub f g n]
    omega
/-- one place changed -/
theorem sg_set {f g : Nat → Int} {k : Nat} : ∀ {n : Nat}, k < n → (∀ i, i < n → i ≠ k → g i = f i) → sg g n = sg f n + (g k - f k)
  | 0, h, _ => absurd h (Nat.not_lt_zero k)
  | n + 1, hk, h => by
    rw [sg, sg]
    by_cases q : k = n
    · subst q
      rw [sg_congr (f := g) (g := f) (fun i hi => h i (by omega) (by omega))]
      omega
    · rw [sg_set (k := k) (n := n) (by omega) (fun i hi hne => h i (by omega) hne), h n (by omega) (by omega)]
      omega
theorem uz_s {F : Nat → Int} {i : Nat} {z : Int} : uz F i z i = z := by simp [uz]
theorem uz_n {F : Nat → Int} {i j : Nat} {z : Int} (h : j ≠ i) : uz F i z j = F j := by simp [uz, h]
/-- what a unit that enters at place e changes of a potential -/
def cfz (fr to ln : Nat → Nat) (χ : Nat → Nat → Int) (e : Nat) : Int := χ (fr (e / 61)) (e % 61) - χ (to (e / 61)) (e % 61 + ln (e / 61))
theorem sg_push {E : Nat → Int} {c : Nat → Int} {k : Nat} {d : Int} (hk : k < 976) : sg (fun e => uz E k (E k + d) e * c e) 976 = sg (fun e => E e * c e) 976 + d * c k := by
  rw [sg_set (f := fun e => E e * c e) (k := k) hk (fun i _ hne => by simp only [uz_n hne])]
  simp only [uz_s]
  rw [Int.add_mul]
  omega
/-- a flow: who enters which lane when (E, by lane * 61 + tick), who isn't led (nl); su: who is there at first in rooms that aren't safe -/
def FL (nL : Nat) (fr to ln : Nat → Nat) (wd sh : Nat → Int) (sf : Nat → Bool) (su : Nat → Int) (T : Nat) (E nl : Nat → Int) : Prop :=
  (∀ e, e < 976 → 0 ≤ E e) ∧
  (∀ e, e < 976 → E e ≠ 0 → e / 61 < nL ∧ sf (fr (e / 61)) = false ∧ ((e % 61 : Nat) : Int) < sh (e / 61) ∧ e % 61 + ln (e / 61) ≤ T) ∧
  (∀ e, e < 976 → 366 ≤ e → e / 61 < nL → E e ≤ wd (e / 61)) ∧
  (∀ r, r < 6 → 0 ≤ nl r ∧ nl r ≤ su r) ∧
  (∀ χ : Nat → Nat → Int, (∀ r t, sf r = true → χ r t = 0) → sg (fun e => E e * cfz fr to ln χ e) 976 = sg (fun r => χ r 0 * (su r - nl r)) 6)
/-- the places from which one can be led out (R), closed under what is left over by E: then nobody leaves fewer behind -/
def CutZ (nL : Nat) (fr to ln : Nat → Nat) (wd sh : Nat → Int) (sf : Nat → Bool) (T : Nat) (E nl : Nat → Int) (R : Nat → Nat → Bool) : Prop :=
  (∀ l t : Nat, l < nL → t < 61 → sf (fr l) = false → (t : Int) < sh l → t + ln l ≤ T → (sf (to l) = true ∨ R (to l) (t + ln l) = true) → (6 ≤ l → E (l * 61 + t) < wd l) → R (fr l) t = true) ∧
  (∀ l t : Nat, l < nL → t < 61 → sf (fr l) = false → t + ln l ≤ T → 0 < E (l * 61 + t) → R (fr l) t = true → (sf (to l) = true ∨ R (to l) (t + ln l) = true)) ∧
  (∀ r, r < 6 → 0 < nl r → R r 0 = false)
theorem FL.max {nL : Nat} {fr to ln : Nat → Nat} {wd sh : Nat → Int} {sf : Nat → Bool} {su : Nat → Int} {T : Nat} {E nl E' nl' : Nat → Int} {R : Nat → Nat → Bool}
    (hsu : ∀ r, r < 6 → sf r = true → su r = 0) (h : FL nL fr to ln wd sh sf su T E nl) (h' : FL nL fr to ln wd sh sf su T E' nl') (hc : CutZ nL fr to ln wd sh sf T E nl R) : sg nl 6 ≤ sg nl' 6 := by
  obtain ⟨a1, a2, a3, a4, a5⟩ := h
  obtain ⟨b1, b2, b3, b4, b5⟩ := h'
  obtain ⟨c1, c2, c3⟩ := hc
  let χ : Nat → Nat → Int := fun r t => if sf r = true ∨ R r t = true then 0 else 1
  have hχ : ∀ r t, sf r = true → χ r t = 0 := fun r t q => if_pos (Or.inl q)
  have e1 := a5 χ hχ
  have e2 := b5 χ hχ
  have hle : sg (fun e => E' e * cfz fr to ln χ e) 976 ≤ sg (fun e => E e * cfz fr to ln χ e) 976 := by
    refine sg_le (fun e he => ?_)
    have hd : e / 61 * 61 + e % 61 = e := by omega
    have hm : e % 61 < 61 := by omega
    have p1 := a1 e he
    have p2 := b1 e he
    show E' e * cfz fr to ln χ e ≤ E e * cfz fr to ln χ e
    unfold cfz
    by_cases q1 : sf (fr (e / 61)) = true ∨ R (fr (e / 61)) (e % 61) = true
    · have z1 : χ (fr (e / 61)) (e % 61) = 0 := if_pos q1
      by_cases q2 : sf (to (e / 61)) = true ∨ R (to (e / 61)) (e % 61 + ln (e / 61)) = true
      · have z2 : χ (to (e / 61)) (e % 61 + ln (e / 61)) = 0 := if_pos q2
        rw [z1, z2]
        omega
      · have z2 : χ (to (e / 61)) (e % 61 + ln (e / 61)) = 1 := if_neg q2
        have hz : E e = 0 := by
          by_cases q3 : E e = 0
          · exact q3
          · obtain ⟨w1, w2, w3, w4⟩ := a2 e he q3
            refine absurd (c2 (e / 61) (e % 61) w1 hm w2 w4 (by rw [hd]; omega) ?_) q2
            rcases q1 with q1 | q1
            · rw [w2] at q1; exact absurd q1 (by decide)
            · exact q1
        rw [z1, z2, hz]
        omega
    · have z1 : χ (fr (e / 61)) (e % 61) = 1 := if_neg q1
      by_cases q2 : sf (to (e / 61)) = true ∨ R (to (e / 61)) (e % 61 + ln (e / 61)) = true
      · have z2 : χ (to (e / 61)) (e % 61 + ln (e / 61)) = 0 := if_pos q2
        rw [z1, z2]
        by_cases q3 : E' e = 0
        · rw [q3]; omega
        · obtain ⟨w1, w2, w3, w4⟩ := b2 e he q3
          by_cases q4 : 6 ≤ e / 61 → E (e / 61 * 61 + e % 61) < wd (e / 61)
          · exact absurd (Or.inr (c1 (e / 61) (e % 61) w1 hm w2 w3 w4 q2 q4)) q1
          · have q5 : 6 ≤ e / 61 ∧ wd (e / 61) ≤ E e := by
              rw [hd] at q4
              constructor
              · by_cases q6 : 6 ≤ e / 61
                · exact q6
                · exact absurd (fun q7 => absurd q7 q6) q4
              · by_cases q6 : wd (e / 61) ≤ E e
                · exact q6
                · exact absurd (fun _ => by omega) q4
            have := b3 e he (by omega) w1
            omega
      · have z2 : χ (to (e / 61)) (e % 61 + ln (e / 61)) = 1 := if_neg q2
        rw [z1, z2]
        omega
  rw [e1, e2] at hle
  have s1 : sg (fun r => χ r 0 * (su r - nl r)) 6 = sg (fun r => χ r 0 * su r) 6 - sg nl 6 := by
    rw [← sg_sub]
    refine sg_congr (fun r hr => ?_)
    show χ r 0 * (su r - nl r) = χ r 0 * su r - nl r
    have w := a4 r hr
    by_cases q : sf r = true ∨ R r 0 = true
    · have z : χ r 0 = 0 := if_pos q
      have : nl r = 0 := by
        rcases q with q | q
        · have := hsu r hr q; omega
        · by_cases q2 : 0 < nl r
          · have := c3 r hr q2; rw [q] at this; exact absurd this (by decide)
          · omega
      rw [z, this]; omega
    · have z : χ r 0 = 1 := if_neg q
      rw [z]; omega
  have s2 : sg (fun r => χ r 0 * su r) 6 - sg nl' 6 ≤ sg (fun r => χ r 0 * (su r - nl' r)) 6 := by
    rw [← sg_sub]
    refine sg_le (fun r hr => ?_)
    show χ r 0 * su r - nl' r ≤ χ r 0 * (su r - nl' r)
    have w := b4 r hr
    by_cases q : sf r = true ∨ R r 0 = true
    · have z : χ r 0 = 0 := if_pos q
      rw [z]; omega
    · have z : χ r 0 = 1 := if_neg q
      rw [z]; omega
  omega
/-- who waits at a tick is among those that are led -/
theorem FL.slice {nL : Nat} {fr to ln : Nat → Nat} {wd sh : Nat → Int} {sf : Nat → Bool} {su : Nat → Int} {T : Nat} {E nl : Nat → Int} (h : FL nL fr to ln wd sh sf su T E nl)
    (hsu : ∀ r, r < 6 → sf r = true → su r = 0) {l t : Nat} (hl : l < 16) (ht : t < 61) (hln : 1 ≤ ln l) : E (l * 61 + t) ≤ sg (fun r => su r - nl r) 6 := by
  obtain ⟨a1, a2, a3, a4, a5⟩ := h
  let χ : Nat → Nat → Int := fun r k => if sf r = true ∨ t < k then 0 else 1
  have hχ : ∀ r t, sf r = true → χ r t = 0 := fun r t q => if_pos (Or.inl q)
  have e1 := a5 χ hχ
  have hnn : ∀ e, e < 976 → 0 ≤ E e * cfz fr to ln χ e := by
    intro e he
    have p1 := a1 e he
    by_cases q0 : E e = 0
    · rw [q0]; omega
    · obtain ⟨w1, w2, w3, w4⟩ := a2 e he q0
      unfold cfz
      by_cases q1 : t < e % 61
      · have z1 : χ (fr (e / 61)) (e % 61) = 0 := if_pos (Or.inr q1)
        have z2 : χ (to (e / 61)) (e % 61 + ln (e / 61)) = 0 := if_pos (Or.inr (by omega))
        rw [z1, z2]; omega
      · have z1 : χ (fr (e / 61)) (e % 61) = 1 := if_neg (fun q => by
          rcases q with q | q
          · rw [w2] at q; exact absurd q (by decide)
          · exact q1 q)
        rw [z1]
        by_cases q2 : sf (to (e / 61)) = true ∨ t < e % 61 + ln (e / 61)
        · have z2 : χ (to (e / 61)) (e % 61 + ln (e / 61)) = 0 := if_pos q2
          rw [z2]; omega
        · have z2 : χ (to (e / 61)) (e % 61 + ln (e / 61)) = 1 := if_neg q2
          rw [z2]; omega
  have hk : l * 61 + t < 976 := by omega
  have h1 := sg_ge_one (f := fun e => E e * cfz fr to ln χ e) hk hnn
  have h2 : sg (fun r => χ r 0 * (su r - nl r)) 6 = sg (fun r => su r - nl r) 6 := by
    refine sg_congr (fun r hr => ?_)
    show χ r 0 * (su r - nl r) = su r - nl r
    by_cases q : sf r = true
    · have := hsu r hr q
      have := a4 r hr
      have : su r - nl r = 0 := by omega
      rw [this]; omega
    · have z : χ r 0 = 1 := if_neg (fun p => by
        rcases p with p | p
        · exact q p
        · omega)
      rw [z]; omega
  rw [e1, h2] at h1
  refine Int.le_trans ?_ h1
  show E (l * 61 + t) ≤ E (l * 61 + t) * cfz fr to ln χ (l * 61 + t)
  by_cases q0 : E (l * 61 + t) = 0
  · rw [q0]; omega
  · obtain ⟨w1, w2, w3, w4⟩ := a2 _ hk q0
    have d1 : (l * 61 + t) / 61 = l := by omega
    have d2 : (l * 61 + t) % 61 = t := by omega
    unfold cfz
    rw [d1] at w2
    rw [d1, d2]
    have z1 : χ (fr l) t = 1 := if_neg (fun q => by
      rcases q with q | q
      · rw [w2] at q; exact absurd q (by decide)
      · omega)
    have z2 : χ (to l) (t + ln l) = 0 := if_pos (Or.inr (by omega))
    rw [z1, z2]; omega
