/-! ONE WAY MORE: the flow behind a way of steps, ahead or taken back -/
def ap (E : Nat → Int) (en : Nat → Nat) (d : Nat → Int) : Nat → Nat → Int
  | 0 => E
  | n + 1 => uz (ap E en d n) (en n) (ap E en d n (en n) + d n)
theorem ap_out {E : Nat → Int} {en : Nat → Nat} {d : Nat → Int} {e : Nat} : ∀ {n : Nat}, (∀ j, j < n → en j ≠ e) → ap E en d n e = E e
  | 0, _ => rfl
  | n + 1, h => by
    rw [ap, uz_n (fun q => h n (by omega) q.symm)]
    exact ap_out (fun j hj => h j (by omega))
theorem ap_in {E : Nat → Int} {en : Nat → Nat} {d : Nat → Int} {k : Nat} : ∀ {n : Nat}, k < n → (∀ i j, i < n → j < n → en i = en j → i = j) → ap E en d n (en k) = E (en k) + d k
  | 0, h, _ => absurd h (Nat.not_lt_zero k)
  | n + 1, hk, hi => by
    rw [ap]
    by_cases q : k = n
    · subst q
      rw [uz_s, ap_out (fun j hj q2 => by have := hi j k (by omega) (by omega) q2; omega)]
    · rw [uz_n (fun q2 => q (hi k n (by omega) (by omega) q2))]
      exact ap_in (by omega) (fun i j h1 h2 => hi i j (by omega) (by omega))
theorem ap_sum {E : Nat → Int} {en : Nat → Nat} {d c : Nat → Int} : ∀ {n : Nat}, (∀ j, j < n → en j < 976) → sg (fun e => ap E en d n e * c e) 976 = sg (fun e => E e * c e) 976 + sg (fun j => d j * c (en j)) n
  | 0, _ => by show sg (fun e => E e * c e) 976 = _ + 0; omega
  | n + 1, h => by
    have h1 := ap_sum (E := E) (d := d) (c := c) (n := n) (fun j hj => h j (by omega))
    have h2 := sg_push (E := ap E en d n) (c := c) (k := en n) (d := d n) (h n (by omega))
    show sg (fun e => uz (ap E en d n) (en n) (ap E en d n (en n) + d n) e * c e) 976 = _
    rw [h2, h1]
    show _ = _ + (sg (fun j => d j * c (en j)) n + d n * c (en n))
    omega
theorem FL.aug {nL : Nat} {fr to ln : Nat → Nat} {wd sh : Nat → Int} {sf : Nat → Bool} {su : Nat → Int} {T : Nat} {E nl : Nat → Int} (h : FL nL fr to ln wd sh sf su T E nl)
    {en : Nat → Nat} {d : Nat → Int} {N r0 : Nat} {w : Int} (hin : ∀ n, n < N → en n < 976) (hinj : ∀ i j, i < N → j < N → en i = en j → i = j)
    (hres : ∀ n, n < N → 0 ≤ E (en n) + d n ∧ (366 ≤ en n → E (en n) + d n ≤ wd (en n / 61)) ∧ (en n / 61 < nL ∧ sf (fr (en n / 61)) = false ∧ ((en n % 61 : Nat) : Int) < sh (en n / 61) ∧ en n % 61 + ln (en n / 61) ≤ T))
    (hr : r0 < 6) (hw : 0 ≤ w) (hw2 : w ≤ nl r0) (htel : ∀ χ : Nat → Nat → Int, (∀ r t, sf r = true → χ r t = 0) → sg (fun n => d n * cfz fr to ln χ (en n)) N = w * χ r0 0) :
    FL nL fr to ln wd sh sf su T (ap E en d N) (uz nl r0 (nl r0 - w)) := by
  obtain ⟨a1, a2, a3, a4, a5⟩ := h
  have hall : ∀ e, e < 976 → (ap E en d N e = E e) ∨ (∃ n, n < N ∧ en n = e ∧ ap E en d N e = E e + d n) := by
    intro e he
    by_cases q : ∃ n, n < N ∧ en n = e
    · obtain ⟨n, h1, h2⟩ := q
      refine Or.inr ⟨n, h1, h2, ?_⟩
      rw [← h2]
      exact ap_in h1 hinj
    · exact Or.inl (ap_out (fun j hj h2 => q ⟨j, hj, h2⟩))
  refine ⟨fun e he => ?_, fun e he hne => ?_, fun e he h6 hn => ?_, fun r hr2 => ?_, fun χ hχ => ?_⟩
  · rcases hall e he with q | ⟨n, h1, h2, q⟩
    · rw [q]; exact a1 e he
    · rw [q, ← h2]; exact (hres n h1).1
  · rcases hall e he with q | ⟨n, h1, h2, q⟩
    · rw [q] at hne; exact a2 e he hne
    · rw [← h2]; exact (hres n h1).2.2
  · rcases hall e he with q | ⟨n, h1, h2, q⟩
    · rw [q]; exact a3 e he h6 hn
    · rw [q, ← h2]; exact (hres n h1).2.1 (by omega)
  · by_cases q : r = r0
    · subst q
      have := a4 r hr2
      rw [uz_s]
      omega
    · rw [uz_n q]
      exact a4 r hr2
  · rw [ap_sum hin, a5 χ hχ, htel χ hχ]
    rw [sg_set (f := fun r => χ r 0 * (su r - nl r)) (g := fun r => χ r 0 * (su r - uz nl r0 (nl r0 - w) r)) (k := r0) hr (fun i _ hne => by simp only [uz_n hne])]
    simp only [uz_s]
    have : χ r0 0 * (su r0 - (nl r0 - w)) = χ r0 0 * (su r0 - nl r0) + w * χ r0 0 := by
      rw [show su r0 - (nl r0 - w) = (su r0 - nl r0) + w by omega, Int.mul_add, Int.mul_comm (χ r0 0) w]
    omega
/-- telescoping along a way of places -/
theorem sg_tel (g : Nat → Int) : ∀ n, sg (fun i => g i - g (i + 1)) n = g 0 - g n
  | 0 => by rw [sg]; omega
  | n + 1 => by rw [sg, sg_tel g n]; omega
theorem sg_mulc (w : Int) (g : Nat → Int) : ∀ n, sg (fun i => w * g i) n = w * sg g n
  | 0 => by rw [sg, sg]; omega
  | n + 1 => by rw [sg, sg, sg_mulc w g n, Int.mul_add]
/-- later, wider: a flow stays one -/
theorem FL.mono {nL : Nat} {fr to ln : Nat → Nat} {wd wd' sh sh' : Nat → Int} {sf : Nat → Bool} {su : Nat → Int} {T T' : Nat} {E nl : Nat → Int} (h : FL nL fr to ln wd sh sf su T E nl) (hT : T ≤ T') (hw : ∀ l, l < nL → wd l ≤ wd' l)
    (hs : ∀ e, e < 976 → E e ≠ 0 → ((e % 61 : Nat) : Int) < sh' (e / 61)) : FL nL fr to ln wd' sh' sf su T' E nl := by
  obtain ⟨a1, a2, a3, a4, a5⟩ := h
  refine ⟨a1, fun e he hne => ?_, fun e he h6 hn => ?_, a4, a5⟩
  · obtain ⟨w1, w2, w3, w4⟩ := a2 e he hne
    exact ⟨w1, w2, hs e he hne, by omega⟩
  · exact Int.le_trans (a3 e he h6 hn) (hw _ hn)
/-- nobody led: a flow -/
theorem FL.zero {nL : Nat} {fr to ln : Nat → Nat} {wd sh : Nat → Int} {sf : Nat → Bool} {su : Nat → Int} {T : Nat} {E nl : Nat → Int} (hE : ∀ e, e < 976 → E e = 0) (hnl : ∀ r, r < 6 → nl r = su r) (hsu : ∀ r, r < 6 → 0 ≤ su r) (hwd : ∀ l, l < nL → 0 ≤ wd l) : FL nL fr to ln wd sh sf su T E nl := by
  refine ⟨fun e he => by rw [hE e he]; omega, fun e he hne => absurd (hE e he) hne, fun e he h6 hn => by rw [hE e he]; exact hwd _ hn, fun r hr => by rw [hnl r hr]; exact ⟨hsu r hr, Int.le_refl _⟩, fun χ hχ => ?_⟩
  rw [sg_congr (g := fun _ => 0) (fun e he => by simp only [hE e he]; omega), sg_congr (f := fun r => χ r 0 * (su r - nl r)) (g := fun _ => 0) (fun r hr => by simp only [hnl r hr]; rw [Int.sub_self, Int.mul_zero])]
  have : ∀ n, sg (fun _ => 0) n = 0 := by
    intro n
    induction n with
    | zero => rfl
    | succ n ih => rw [sg, ih]; rfl
  rw [this, this]
