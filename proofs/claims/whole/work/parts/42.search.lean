/-! THE CLASS'S SEARCH: what `latest` and `step` say, with a rank that falls along the steps -/
def NV (nL : Nat) (F G L Wd Sh : Nat → Int) : Prop := 6 ≤ nL ∧ nL ≤ 16 ∧ (∀ l, l < nL → 0 ≤ F l ∧ F l < 6 ∧ 0 ≤ G l ∧ G l < 6 ∧ 1 ≤ L l ∧ L l ≤ 4 ∧ 0 ≤ Sh l ∧ Sh l ≤ 1000 ∧ 1 ≤ Wd l ∧ Wd l ≤ 180) ∧ (∀ r : Nat, r < 6 → F r = r ∧ G r = r ∧ L r = 1 ∧ Wd r = 180 ∧ Sh r = 1000)
def cntz (sf : Nat → Bool) (La : Nat → Int) : Int := sg (fun r => if sf r = true then 0 else La r + 1) 6
/-- a step's number: into lane l at t, or lane l taken back; its end was reached -/
def SV (nL : Nat) (F G L Wd Sh : Nat → Int) (E La : Nat → Int) (r t : Nat) (s : Int) (P : Nat → Nat → Prop) : Prop :=
  (∃ l : Nat, l < nL ∧ s = l + 1 ∧ F l = r ∧ (t : Int) < Sh l ∧ t + L l ≤ La (G l).toNat ∧ (6 ≤ l → E (l * 61 + t) < Wd l) ∧ P (G l).toNat (t + (L l).toNat)) ∨
  (∃ l : Nat, l < nL ∧ s = -(l + 1) ∧ G l = r ∧ L l ≤ t ∧ 0 < E (l * 61 + (t - (L l).toNat)) ∧ t - L l ≤ La (F l).toNat ∧ P (F l).toNat (t - (L l).toNat))
def SR (nL : Nat) (F G L Wd Sh : Nat → Int) (sf : Nat → Bool) (goal : Int) (E La St : Nat → Int) (rk : Nat → Nat → Nat) : Prop :=
  (∀ r, r < 6 → (sf r = true → La r = goal) ∧ -1 ≤ La r ∧ La r ≤ goal) ∧ (∀ r t, sf r = true → rk r t = 0) ∧
  (∀ r t : Nat, r < 6 → sf r = false → (t : Int) ≤ La r → SV nL F G L Wd Sh E La r t (St (r * 61 + t)) (fun r' t' => rk r' t' < rk r t) ∧ (rk r t : Int) ≤ cntz sf La)
theorem SV.mono {nL : Nat} {F G L Wd Sh E La La' : Nat → Int} {r t : Nat} {s : Int} {P Q : Nat → Nat → Prop} (hNV : NV nL F G L Wd Sh) (h : SV nL F G L Wd Sh E La r t s P) (hLa : ∀ r, r < 6 → La r ≤ La' r) (hPQ : ∀ r' t' : Nat, r' < 6 → (t' : Int) ≤ La r' → P r' t' → Q r' t') : SV nL F G L Wd Sh E La' r t s Q := by
  obtain ⟨_, _, hv, _⟩ := hNV
  rcases h with ⟨l, h1, h2, h3, h4, h5, h6, h7⟩ | ⟨l, h1, h2, h3, h4, h5, h6, h7⟩
  · have v := hv l h1
    have w := hLa (G l).toNat (by omega)
    exact Or.inl ⟨l, h1, h2, h3, h4, by omega, h6, hPQ _ _ (by omega) (by omega) h7⟩
  · have v := hv l h1
    have w := hLa (F l).toNat (by omega)
    exact Or.inr ⟨l, h1, h2, h3, h4, h5, by omega, hPQ _ _ (by omega) (by omega) h7⟩
theorem cnt_nonneg {sf : Nat → Bool} {La : Nat → Int} (h : ∀ r, r < 6 → -1 ≤ La r) : 0 ≤ cntz sf La := by
  refine sg_nonneg (fun r hr => ?_)
  have := h r hr
  show 0 ≤ if sf r = true then 0 else La r + 1
  split <;> omega
theorem cnt_le {sf : Nat → Bool} {La : Nat → Int} (h : ∀ r, r < 6 → La r ≤ 60) : cntz sf La ≤ 366 := by
  have h1 : cntz sf La ≤ sg (fun _ => 61) 6 := by
    refine sg_le (fun r hr => ?_)
    have := h r hr
    show (if sf r = true then 0 else La r + 1) ≤ 61
    split <;> omega
  exact h1
theorem cnt_mono {sf : Nat → Bool} {La La' : Nat → Int} (h : ∀ r, r < 6 → La r ≤ La' r) : cntz sf La ≤ cntz sf La' := by
  refine sg_le (fun r hr => ?_)
  have := h r hr
  show (if sf r = true then 0 else La r + 1) ≤ (if sf r = true then 0 else La' r + 1)
  split <;> omega
theorem cnt_set {sf : Nat → Bool} {La : Nat → Int} {a : Nat} {k : Int} (ha : a < 6) (hs : sf a = false) : cntz sf (uz La a k) = cntz sf La + (k - La a) := by
  unfold cntz
  rw [sg_set (f := fun r => if sf r = true then 0 else La r + 1) (k := a) ha (fun i _ hne => by simp only [uz_n hne])]
  simp only [uz_s, hs, Bool.false_eq_true, if_false]
  omega
/-- some more places of a room are reached -/
theorem SR.ext {nL : Nat} {F G L Wd Sh : Nat → Int} {sf : Nat → Bool} {goal : Int} {E La St St' : Nat → Int} {rk : Nat → Nat → Nat} (hNV : NV nL F G L Wd Sh) (hg : goal ≤ 60) (h : SR nL F G L Wd Sh sf goal E La St rk) {a k : Nat} (ha : a < 6) (hs : sf a = false) (hk : La a < k) (hkg : (k : Int) ≤ goal) {nx : Int}
    (hnx : SV nL F G L Wd Sh E La a k nx (fun _ _ => True)) (e1 : St' (a * 61 + k) = nx) (e2 : ∀ b : Nat, La a < b → b < k → St' (a * 61 + b) = a + 1) (e3 : ∀ r t : Nat, r < 6 → t < 61 → (r ≠ a ∨ (t : Int) ≤ La a) → St' (r * 61 + t) = St (r * 61 + t)) :
    ∃ rk', SR nL F G L Wd Sh sf goal E (uz La a k) St' rk' := by
  obtain ⟨s1, s2, s3⟩ := h
  have hcn : 0 ≤ cntz sf La := cnt_nonneg (fun r hr => (s1 r hr).2.1)
  have hcs := cnt_set (La := La) (k := k) ha hs
  obtain ⟨rk', hrk⟩ : ∃ rk' : Nat → Nat → Nat, rk' = fun (r t : Nat) => if r = a ∧ La a < (t : Int) ∧ t ≤ k then (cntz sf La + 1 + ((k : Int) - t)).toNat else rk r t := ⟨_, rfl⟩
  have hLm : ∀ r, r < 6 → La r ≤ uz La a k r := by
    intro r hr
    by_cases q : r = a
    · subst q; rw [uz_s]; omega
    · rw [uz_n q]; omega
  have hold : ∀ r t : Nat, (t : Int) ≤ La r → rk' r t = rk r t := by
    intro r t ht
    rw [hrk]
    exact if_neg (fun q => by obtain ⟨q1, q2, q3⟩ := q; subst q1; omega)
  have hnew : ∀ t : Nat, La a < (t : Int) → t ≤ k → rk' a t = (cntz sf La + 1 + ((k : Int) - t)).toNat := by
    intro t h1 h2
    rw [hrk]
    exact if_pos ⟨rfl, h1, h2⟩
  refine ⟨rk', fun r hr => ?_, fun r t hr => ?_, fun r t hr hsr ht => ?_⟩
  · have w := s1 r hr
    by_cases q : r = a
    · subst q
      rw [uz_s]
      exact ⟨fun z => by rw [hs] at z; exact absurd z (by decide), by omega, hkg⟩
    · rw [uz_n q]; exact w
  · rw [hrk]
    show (if r = a ∧ La a < (t : Int) ∧ t ≤ k then _ else rk r t) = 0
    rw [if_neg (fun q => by rw [q.1, hs] at hr; exact absurd hr (by decide))]
    exact s2 r t hr
  · by_cases q : r = a ∧ La a < (t : Int)
    · obtain ⟨rfl, q⟩ := q
      rw [uz_s] at ht
      have hv := hNV.2.2.2 r ha
      have hrt := hnew t q (by omega)
      refine ⟨?_, by rw [hrt, hcs]; omega⟩
      by_cases q2 : t = k
      · subst q2
        rw [e1]
        refine SV.mono hNV hnx hLm (fun r' t' hr' ht' _ => ?_)
        rw [hold r' t' ht', hrt]
        by_cases q3 : sf r' = true
        · rw [s2 r' t' q3]; omega
        · have := (s3 r' t' hr' (by simpa using q3) ht').2
          omega
      · rw [e2 t q (by omega)]
        refine Or.inl ⟨r, by have := hNV.1; omega, rfl, hv.1, by rw [hv.2.2.2.2]; omega, ?_, fun z => by omega, ?_⟩
        · rw [hv.2.1, hv.2.2.1]
          show _ ≤ uz La r k r
          rw [uz_s]; omega
        · rw [hv.2.1, hv.2.2.1]
          show rk' r (t + 1) < rk' r t
          rw [hrt, hnew (t + 1) (by omega) (by omega)]
          omega
    · have ht' : (t : Int) ≤ La r := by
        by_cases q2 : r = a
        · subst q2
          by_cases q3 : La r < (t : Int)
          · exact absurd ⟨rfl, q3⟩ q
          · omega
        · rw [uz_n q2] at ht; exact ht
      have w := s3 r t hr hsr ht'
      have hl := s1 r hr
      have hra : r ≠ a ∨ (t : Int) ≤ La a := by
        by_cases q2 : r = a
        · subst q2; exact Or.inr ht'
        · exact Or.inl q2
      rw [e3 r t hr (by omega) hra, hold r t ht']
      refine ⟨SV.mono hNV w.1 hLm (fun r' t' hr' ht2 hlt => by rw [hold r' t' ht2]; exact hlt), ?_⟩
      rw [hcs]
      have := w.2
      omega
/-- reach(room, tick, next) -/
theorem reach_L {K : (Nat → Int) → Prop} {a k : Nat} (ha : a < 6) (hk : k < 61) : ∀ (d : Nat) (v : Int) (S : Nat → Int), v + d = k → 0 ≤ v → (∀ S' : Nat → Int, (∀ j : Nat, (a : Int) * 61 + v ≤ j → (j : Int) < a * 61 + k → S' j = a + 1) → (∀ j : Nat, ((j : Int) < a * 61 + v ∨ (a : Int) * 61 + k ≤ j) → S' j = S j) → K S') → iv_X0_reach_L16 K a k (a * 61) (d + 1) v S
  | 0, v, S, hd, hv, hK => by
    rw [iv_X0_reach_L16]
    refine ⟨⟨by unfold sm; omega, by unfold sm; omega⟩, fun _ => hK S (fun j h1 h2 => by omega) (fun _ _ => rfl), fun c => by omega⟩
  | d + 1, v, S, hd, hv, hK => by
    rw [iv_X0_reach_L16]
    refine ⟨⟨by unfold sm; omega, by unfold sm; omega⟩, fun c => by omega, fun c => ⟨by omega, fun x hx => ?_⟩⟩
    subst hx
    refine reach_L ha hk d (v + 1) _ (by omega) (by omega) (fun S' h1 h2 => hK S' (fun j q1 q2 => ?_) (fun j q => ?_))
    · by_cases q3 : (j : Int) = a * 61 + v
      · rw [h2 j (by omega)]
        show (if j = _ then _ else _) = _
        rw [if_pos (by omega)]
      · exact h1 j (by omega) q2
    · rw [h2 j (by omega)]
      show (if j = _ then _ else _) = _
      rw [if_neg (by omega)]
theorem sp_reach {a k : Nat} {nx : Int} {La St : Nat → Int} {post : ((Nat → Int) × (Nat → Int)) → Prop} (ha : a < 6) (hk : k < 61) (h1 : -1 ≤ La a) (h2 : La a < k)
    (hp : ∀ S' : Nat → Int, S' (a * 61 + k) = nx → (∀ b : Nat, La a < b → b < k → S' (a * 61 + b) = a + 1) → (∀ r t : Nat, r < 6 → t < 61 → (r ≠ a ∨ (t : Int) ≤ La a) → S' (r * 61 + t) = St (r * 61 + t)) → post (uz La a k, S')) : iv_X0_reach a k nx La St post := by
  rw [iv_X0_reach]
  intro x4 h4
  subst h4
  refine ⟨by omega, fun x5 h5 => ?_⟩
  rw [Int.toNat_natCast] at h5
  refine ⟨((k : Int) - x5).toNat + 1, reach_L ha hk _ _ _ (by omega) (by omega) (fun S' w1 w2 => ⟨by omega, by omega, ?_⟩)⟩
  rw [Int.toNat_natCast]
  have hi : ((a : Int) * 61 + (k : Int)).toNat = a * 61 + k := by omega
  rw [hi]
  refine hp _ uz_s (fun b q1 q2 => ?_) (fun r t hr ht q => ?_)
  · rw [uz_n (by omega)]
    exact w1 _ (by omega) (by omega)
  · have hne : r * 61 + t ≠ a * 61 + k := by
      rcases q with q | q
      · intro z; omega
      · intro z; omega
    rw [uz_n hne]
    refine w2 _ ?_
    rcases q with q | q
    · by_cases z : r < a
      · exact Or.inl (by omega)
      · exact Or.inr (by omega)
    · by_cases z : r < a
      · exact Or.inl (by omega)
      · by_cases z2 : r = a
        · subst z2; exact Or.inl (by omega)
        · exact Or.inr (by omega)
