/-! RUSH: how far it is, and by which passage (pure) -/
def E6 (f g : Nat → Int) : Prop := ∀ r, r < 6 → f r = g r
def rx (S : Nat → Int) (t : Nat) (f : Nat → Int) (p : Nat) : Nat → Int :=
  if (t : Int) < S (58 + p) ∧ sfS S (S (18 + p)).toNat = false ∧ f (S (28 + p)).toNat + S (48 + p) < f (S (18 + p)).toNat then uz f (S (18 + p)).toNat (f (S (28 + p)).toNat + S (48 + p)) else f
def rr (S : Nat → Int) (t : Nat) (f : Nat → Int) : Nat → (Nat → Int)
  | 0 => f
  | k + 1 => rx S t (rr S t f k) k
def f0 (S : Nat → Int) : Nat → Int := fun r => if sfS S r = true then 0 else 1000
def itz (S : Nat → Int) (t : Nat) : Nat → (Nat → Int)
  | 0 => f0 S
  | k + 1 => rr S t (itz S t k) (S 68).toNat
def farz (S : Nat → Int) (t : Nat) : Nat → Int := itz S t 6
def RI (S f : Nat → Int) : Prop := ∀ r, r < 6 → 0 ≤ f r ∧ f r ≤ 1000 ∧ (sfS S r = true → f r = 0)
def AT (S : Nat → Int) (t : Nat) (f : Nat → Int) : Prop := ∀ r : Nat, r < 6 → sfS S r = false → f r < 1000 → ∃ p : Nat, (p : Int) < S 68 ∧ (t : Int) < S (58 + p) ∧ S (18 + p) = r ∧ f (S (28 + p)).toNat + S (48 + p) ≤ f r
def ST (S : Nat → Int) (t : Nat) (f : Nat → Int) : Prop := ∀ p : Nat, (p : Int) < S 68 → (t : Int) < S (58 + p) → sfS S (S (18 + p)).toNat = false → f (S (18 + p)).toNat ≤ f (S (28 + p)).toNat + S (48 + p)
section FAR
variable {S : Nat → Int} {t : Nat}
theorem rx_le (f : Nat → Int) (p r : Nat) : rx S t f p r ≤ f r := by
  unfold rx
  by_cases c : (t : Int) < S (58 + p) ∧ sfS S (S (18 + p)).toNat = false ∧ f (S (28 + p)).toNat + S (48 + p) < f (S (18 + p)).toNat
  · rw [if_pos c]
    by_cases q : r = (S (18 + p)).toNat
    · subst q; rw [uz_s]; omega
    · rw [uz_n q]; omega
  · rw [if_neg c]; omega
theorem rr_le (f : Nat → Int) (r : Nat) : ∀ k, rr S t f k r ≤ f r
  | 0 => Int.le_refl _
  | k + 1 => Int.le_trans (rx_le _ _ _) (rr_le f r k)
theorem rr_le2 (f : Nat → Int) (r : Nat) {k : Nat} : ∀ d, rr S t f (k + d) r ≤ rr S t f k r
  | 0 => Int.le_refl _
  | d + 1 => Int.le_trans (rx_le _ _ _) (rr_le2 f r d)
theorem rx_congr {f g : Nat → Int} (hPV : PV S) {p : Nat} (hp : (p : Int) < S 68) (h : E6 f g) : E6 (rx S t f p) (rx S t g p) := by
  have v := hPV.2.2.2 p hp
  intro r hr
  unfold rx
  rw [h (S (18 + p)).toNat (by omega), h (S (28 + p)).toNat (by omega)]
  by_cases c : (t : Int) < S (58 + p) ∧ sfS S (S (18 + p)).toNat = false ∧ g (S (28 + p)).toNat + S (48 + p) < g (S (18 + p)).toNat
  · rw [if_pos c, if_pos c]
    by_cases q : r = (S (18 + p)).toNat
    · subst q; rw [uz_s, uz_s]
    · rw [uz_n q, uz_n q]; exact h r hr
  · rw [if_neg c, if_neg c]; exact h r hr
theorem rr_congr {f g : Nat → Int} (hPV : PV S) (h : E6 f g) : ∀ {k : Nat}, (k : Int) ≤ S 68 → E6 (rr S t f k) (rr S t g k)
  | 0, _ => h
  | k + 1, hk => rx_congr hPV (by omega) (rr_congr hPV h (by omega))
theorem rx_ri (hPV : PV S) {f : Nat → Int} (h : RI S f) {p : Nat} (hp : (p : Int) < S 68) : RI S (rx S t f p) := by
  have v := hPV.2.2.2 p hp
  intro r hr
  unfold rx
  by_cases c : (t : Int) < S (58 + p) ∧ sfS S (S (18 + p)).toNat = false ∧ f (S (28 + p)).toNat + S (48 + p) < f (S (18 + p)).toNat
  · rw [if_pos c]
    by_cases q : r = (S (18 + p)).toNat
    · subst q
      rw [uz_s]
      have h1 := h (S (18 + p)).toNat (by omega)
      have h2 := h (S (28 + p)).toNat (by omega)
      refine ⟨by omega, by omega, fun z => ?_⟩
      rw [c.2.1] at z; exact absurd z (by decide)
    · rw [uz_n q]; exact h r hr
  · rw [if_neg c]; exact h r hr
theorem rr_ri (hPV : PV S) {f : Nat → Int} (h : RI S f) : ∀ {k : Nat}, (k : Int) ≤ S 68 → RI S (rr S t f k)
  | 0, _ => h
  | k + 1, hk => rx_ri hPV (rr_ri hPV h (by omega)) (by omega)
theorem rx_at (hPV : PV S) {f : Nat → Int} (h : AT S t f) {p : Nat} (hp : (p : Int) < S 68) : AT S t (rx S t f p) := by
  have v := hPV.2.2.2 p hp
  have hne : (S (28 + p)).toNat ≠ (S (18 + p)).toNat := by omega
  intro r hr hs hlt
  have hold : rx S t f p r = f r → ∃ p' : Nat, (p' : Int) < S 68 ∧ (t : Int) < S (58 + p') ∧ S (18 + p') = r ∧ rx S t f p (S (28 + p')).toNat + S (48 + p') ≤ rx S t f p r := by
    intro e
    obtain ⟨p', a1, a2, a3, a4⟩ := h r hr hs (by omega)
    have := rx_le (S := S) (t := t) f p (S (28 + p')).toNat
    exact ⟨p', a1, a2, a3, by omega⟩
  by_cases c : (t : Int) < S (58 + p) ∧ sfS S (S (18 + p)).toNat = false ∧ f (S (28 + p)).toNat + S (48 + p) < f (S (18 + p)).toNat
  · by_cases q : r = (S (18 + p)).toNat
    · refine ⟨p, hp, c.1, by omega, ?_⟩
      unfold rx
      rw [if_pos c, q, uz_s, uz_n hne]
      exact Int.le_refl _
    · refine hold ?_
      unfold rx
      rw [if_pos c, uz_n q]
  · refine hold ?_
    unfold rx
    rw [if_neg c]
theorem rx_relax (f : Nat → Int) {p : Nat} (h1 : (t : Int) < S (58 + p)) (h2 : sfS S (S (18 + p)).toNat = false) : rx S t f p (S (18 + p)).toNat ≤ f (S (28 + p)).toNat + S (48 + p) := by
  unfold rx
  by_cases c : (t : Int) < S (58 + p) ∧ sfS S (S (18 + p)).toNat = false ∧ f (S (28 + p)).toNat + S (48 + p) < f (S (18 + p)).toNat
  · rw [if_pos c, uz_s]; omega
  · rw [if_neg c]
    by_cases q : f (S (28 + p)).toNat + S (48 + p) < f (S (18 + p)).toNat
    · exact absurd ⟨h1, h2, q⟩ c
    · omega
/-- what is stable and below stays below -/
theorem rx_ge (hPV : PV S) {D f : Nat → Int} (hD : ST S t D) (h : ∀ r, r < 6 → D r ≤ f r) {p : Nat} (hp : (p : Int) < S 68) : ∀ r, r < 6 → D r ≤ rx S t f p r := by
  have v := hPV.2.2.2 p hp
  intro r hr
  unfold rx
  by_cases c : (t : Int) < S (58 + p) ∧ sfS S (S (18 + p)).toNat = false ∧ f (S (28 + p)).toNat + S (48 + p) < f (S (18 + p)).toNat
  · rw [if_pos c]
    by_cases q : r = (S (18 + p)).toNat
    · subst q
      rw [uz_s]
      have h1 := hD p hp c.1 c.2.1
      have h2 := h (S (28 + p)).toNat (by omega)
      omega
    · rw [uz_n q]; exact h r hr
  · rw [if_neg c]; exact h r hr
theorem rr_ge (hPV : PV S) {D f : Nat → Int} (hD : ST S t D) (h : ∀ r, r < 6 → D r ≤ f r) : ∀ {k : Nat}, (k : Int) ≤ S 68 → ∀ r, r < 6 → D r ≤ rr S t f k r
  | 0, _ => h
  | k + 1, hk => rx_ge hPV hD (rr_ge hPV hD h (by omega)) (by omega)
theorem n68 (hPV : PV S) : ((S 68).toNat : Int) ≤ S 68 := by have := hPV.2.1; omega
theorem itz_ge (hPV : PV S) {D : Nat → Int} (hD : ST S t D) (h : ∀ r, r < 6 → D r ≤ f0 S r) : ∀ k, ∀ r, r < 6 → D r ≤ itz S t k r
  | 0 => h
  | k + 1 => rr_ge hPV hD (itz_ge hPV hD h k) (n68 hPV)
theorem f0_ri : RI S (f0 S) := by
  intro r hr
  unfold f0
  by_cases q : sfS S r = true
  · rw [if_pos q]; exact ⟨by omega, by omega, fun _ => rfl⟩
  · rw [if_neg q]; exact ⟨by omega, by omega, fun z => absurd z q⟩
theorem f0_at : AT S t (f0 S) := by
  intro r hr hs hlt
  unfold f0 at hlt
  rw [if_neg (by rw [hs]; decide)] at hlt
  omega
theorem itz_ri (hPV : PV S) : ∀ k, RI S (itz S t k)
  | 0 => f0_ri
  | k + 1 => rr_ri hPV (itz_ri hPV k) (n68 hPV)
theorem ex_stable (hPV : PV S) : ∀ (n : Nat) (f : Nat → Int), RI S f → AT S t f → sg f 6 ≤ n → ∃ D, RI S D ∧ AT S t D ∧ ST S t D ∧ ∀ r, r < 6 → D r ≤ f r := by
  intro n
  induction n with
  | zero =>
    intro f h1 h2 h3
    refine ⟨f, h1, h2, fun p hp ho hs => ?_, fun r hr => Int.le_refl _⟩
    have v := hPV.2.2.2 p hp
    have a1 := h1 (S (18 + p)).toNat (by omega)
    have a2 := h1 (S (28 + p)).toNat (by omega)
    have a3 := sg_ge_one (f := f) (k := (S (18 + p)).toNat) (n := 6) (by omega) (fun i hi => (h1 i hi).1)
    omega
  | succ n ih =>
    intro f h1 h2 h3
    by_cases hst : ST S t f
    · exact ⟨f, h1, h2, hst, fun r hr => Int.le_refl _⟩
    · have : ∃ p : Nat, (p : Int) < S 68 ∧ (t : Int) < S (58 + p) ∧ sfS S (S (18 + p)).toNat = false ∧ f (S (28 + p)).toNat + S (48 + p) < f (S (18 + p)).toNat := by
        by_cases q : ∃ p : Nat, (p : Int) < S 68 ∧ (t : Int) < S (58 + p) ∧ sfS S (S (18 + p)).toNat = false ∧ f (S (28 + p)).toNat + S (48 + p) < f (S (18 + p)).toNat
        · exact q
        · refine absurd (fun p hp ho hs => ?_) hst
          by_cases q2 : f (S (28 + p)).toNat + S (48 + p) < f (S (18 + p)).toNat
          · exact absurd ⟨p, hp, ho, hs, q2⟩ q
          · omega
      obtain ⟨p, a1, a2, a3, a4⟩ := this
      have v := hPV.2.2.2 p a1
      obtain ⟨D, d1, d2, d3, d4⟩ := ih (rx S t f p) (rx_ri hPV h1 a1) (rx_at hPV h2 a1) (by
        have e := sg_set (f := f) (g := rx S t f p) (k := (S (18 + p)).toNat) (n := 6) (by omega) (fun i _ hne => by
          unfold rx; rw [if_pos ⟨a2, a3, a4⟩, uz_n hne])
        have e2 : rx S t f p (S (18 + p)).toNat = f (S (28 + p)).toNat + S (48 + p) := by
          unfold rx; rw [if_pos ⟨a2, a3, a4⟩, uz_s]
        omega)
      exact ⟨D, d1, d2, d3, fun r hr => Int.le_trans (d4 r hr) (rx_le _ _ _)⟩
def rkz (D : Nat → Int) (r : Nat) : Int := sg (fun k => if D k < D r then 1 else 0) 6
theorem rkz_5 {D : Nat → Int} {r : Nat} (hr : r < 6) : rkz D r ≤ 5 := by
  have h : sg (fun _ => (1 : Int)) 6 = sg (fun k => if k = r then (0 : Int) else 1) 6 + (1 - (if r = r then (0 : Int) else 1)) := sg_set (f := fun k => if k = r then (0 : Int) else 1) (g := fun _ => 1) (k := r) (n := 6) hr (fun i _ hne => by simp only [if_neg hne])
  have h2 : rkz D r ≤ sg (fun k => if k = r then (0 : Int) else 1) 6 := sg_le (fun i hi => by
    by_cases q : i = r
    · subst q
      show (if D i < D i then (1 : Int) else 0) ≤ if i = i then 0 else 1
      rw [if_neg (by omega), if_pos rfl]; omega
    · show (if D i < D r then (1 : Int) else 0) ≤ if i = r then 0 else 1
      rw [if_neg q]
      by_cases q2 : D i < D r
      · rw [if_pos q2]; omega
      · rw [if_neg q2]; omega)
  have h3 : sg (fun _ => (1 : Int)) 6 = 6 := rfl
  have e : (if r = r then (0 : Int) else 1) = 0 := if_pos rfl
  rw [e] at h
  omega
theorem rkz_lt {D : Nat → Int} {r r' : Nat} (hr : r' < 6) (h : D r' < D r) : rkz D r' + 1 ≤ rkz D r := by
  have h1 := sg_sub (fun k => if D k < D r then (1 : Int) else 0) (fun k => if D k < D r' then (1 : Int) else 0) 6
  have h2 := sg_ge_one (f := fun k => (if D k < D r then (1 : Int) else 0) - (if D k < D r' then (1 : Int) else 0)) (k := r') (n := 6) hr (fun i _ => by
    show 0 ≤ (if D i < D r then (1 : Int) else 0) - (if D i < D r' then (1 : Int) else 0)
    by_cases q : D i < D r'
    · rw [if_pos q, if_pos (by omega)]; omega
    · rw [if_neg q]
      by_cases q2 : D i < D r
      · rw [if_pos q2]; omega
      · rw [if_neg q2]; omega)
  have h3 : (if D r' < D r then (1 : Int) else 0) - (if D r' < D r' then (1 : Int) else 0) = 1 := by
    rw [if_pos h, if_neg (by omega)]; omega
  simp only [h3] at h2
  unfold rkz
  omega
theorem conv (hPV : PV S) {D : Nat → Int} (hR : RI S D) (hA : AT S t D) (hD : ST S t D) (h0 : ∀ r, r < 6 → D r ≤ f0 S r) : ∀ (k r : Nat), r < 6 → D r < 1000 → rkz D r ≤ k → itz S t k r = D r := by
  intro k
  induction k with
  | zero =>
    intro r hr h1 hk
    by_cases q : sfS S r = true
    · rw [(itz_ri hPV 0 r hr).2.2 q, (hR r hr).2.2 q]
    · obtain ⟨p, a1, a2, a3, a4⟩ := hA r hr (by simpa using q) h1
      have v := hPV.2.2.2 p a1
      have h2 := rkz_lt (D := D) (r := r) (r' := (S (28 + p)).toNat) (by omega) (by omega)
      have h3 : 0 ≤ rkz D (S (28 + p)).toNat := sg_nonneg (fun i _ => by
        show 0 ≤ (if D i < D (S (28 + p)).toNat then (1 : Int) else 0)
        by_cases q : D i < D (S (28 + p)).toNat
        · rw [if_pos q]; omega
        · rw [if_neg q]; omega)
      omega
  | succ k ih =>
    intro r hr h1 hk
    by_cases q : sfS S r = true
    · rw [(itz_ri hPV (k + 1) r hr).2.2 q, (hR r hr).2.2 q]
    · obtain ⟨p, a1, a2, a3, a4⟩ := hA r hr (by simpa using q) h1
      have v := hPV.2.2.2 p a1
      have h2 := rkz_lt (D := D) (r := r) (r' := (S (28 + p)).toNat) (by omega) (by omega)
      have h3 := ih (S (28 + p)).toNat (by omega) (by omega) (by omega)
      have hge := itz_ge hPV hD h0 (k + 1) r hr
      have er : (S (18 + p)).toNat = r := by omega
      have w1 := rx_relax (S := S) (t := t) (rr S t (itz S t k) p) (p := p) a2 (by rw [er]; simpa using q)
      rw [er] at w1
      have w2 := rr_le (S := S) (t := t) (itz S t k) (S (28 + p)).toNat p
      have w3 := rr_le2 (S := S) (t := t) (itz S t k) r (k := p + 1) ((S 68).toNat - (p + 1))
      rw [show p + 1 + ((S 68).toNat - (p + 1)) = (S 68).toNat by omega] at w3
      have e1 : itz S t (k + 1) r = rr S t (itz S t k) (S 68).toNat r := rfl
      have e2 : rr S t (itz S t k) (p + 1) r = rx S t (rr S t (itz S t k) p) p r := rfl
      omega
theorem far_ok (hPV : PV S) (t : Nat) : RI S (farz S t) ∧ AT S t (farz S t) ∧ ST S t (farz S t) := by
  have hs : 0 ≤ sg (f0 S) 6 := sg_nonneg (fun r hr => (f0_ri r hr).1)
  obtain ⟨D, d1, d2, d3, d4⟩ := ex_stable hPV (t := t) (sg (f0 S) 6).toNat (f0 S) f0_ri f0_at (by omega)
  have he : E6 (farz S t) D := by
    intro r hr
    by_cases q : D r < 1000
    · exact conv hPV d1 d2 d3 d4 6 r hr q (by have := rkz_5 (D := D) hr; omega)
    · have h1 := itz_ge hPV d3 d4 6 r hr
      have h2 := itz_ri hPV (t := t) 6 r hr
      have : farz S t r = itz S t 6 r := rfl
      have := d1 r hr
      omega
  refine ⟨fun r hr => by rw [he r hr]; exact d1 r hr, fun r hr hs hlt => ?_, fun p hp ho hs => ?_⟩
  · rw [he r hr] at hlt
    obtain ⟨p, a1, a2, a3, a4⟩ := d2 r hr hs hlt
    have v := hPV.2.2.2 p a1
    exact ⟨p, a1, a2, a3, by rw [he _ (by omega), he r hr]; exact a4⟩
  · have v := hPV.2.2.2 p hp
    rw [he _ (by omega), he _ (by omega)]
    exact d3 p hp ho hs
theorem itz_stop (hPV : PV S) {k : Nat} (h : E6 (itz S t (k + 1)) (itz S t k)) : ∀ j, E6 (itz S t (k + j)) (itz S t k)
  | 0 => fun _ _ => rfl
  | j + 1 => fun r hr => by
    rw [← h r hr]
    exact rr_congr hPV (itz_stop hPV h j) (n68 hPV) r hr
/-- the same are open: the same distances -/
theorem rx_same {t' : Nat} {f : Nat → Int} {p : Nat} (h : (t : Int) < S (58 + p) ↔ (t' : Int) < S (58 + p)) : rx S t f p = rx S t' f p := by
  unfold rx
  by_cases c : (t : Int) < S (58 + p) ∧ sfS S (S (18 + p)).toNat = false ∧ f (S (28 + p)).toNat + S (48 + p) < f (S (18 + p)).toNat
  · rw [if_pos c, if_pos ⟨h.mp c.1, c.2⟩]
  · rw [if_neg c, if_neg (fun z => c ⟨h.mpr z.1, z.2⟩)]
theorem rr_same {t' : Nat} {f : Nat → Int} : ∀ {k : Nat}, (∀ p : Nat, p < k → ((t : Int) < S (58 + p) ↔ (t' : Int) < S (58 + p))) → rr S t f k = rr S t' f k
  | 0, _ => rfl
  | k + 1, h => by
    show rx S t (rr S t f k) k = rx S t' (rr S t' f k) k
    rw [rr_same (fun p hp => h p (by omega)), rx_same (h k (by omega))]
theorem itz_same {t' : Nat} (h : ∀ p : Nat, p < (S 68).toNat → ((t : Int) < S (58 + p) ↔ (t' : Int) < S (58 + p))) : ∀ k, itz S t k = itz S t' k
  | 0 => rfl
  | k + 1 => by
    show rr S t (itz S t k) _ = rr S t' (itz S t' k) _
    rw [itz_same h k, rr_same h]
end FAR
/-- the least below n that keeps c; -1: none -/
noncomputable def fl (c : Nat → Prop) : Nat → Int
  | 0 => -1
  | k + 1 => @ite Int (0 ≤ fl c k) (Classical.propDecidable _) (fl c k) (@ite Int (c k) (Classical.propDecidable _) (k : Int) (-1))
theorem fl_none {c : Nat → Prop} : ∀ {n : Nat}, (∀ p, p < n → ¬ c p) → fl c n = -1
  | 0, _ => rfl
  | n + 1, h => by
    rw [fl, fl_none (fun p hp => h p (by omega)), if_neg (by omega), if_neg (h n (by omega))]
theorem fl_eq {c : Nat → Prop} {p : Nat} (hc : c p) (hl : ∀ q, q < p → ¬ c q) : ∀ {d : Nat}, fl c (p + 1 + d) = p
  | 0 => by
    show fl c (p + 1) = p
    rw [fl, fl_none hl, if_neg (by omega), if_pos hc]
  | d + 1 => by
    show fl c (p + 1 + d + 1) = p
    rw [fl, fl_eq hc hl, if_pos (by omega)]
theorem fl_spec {c : Nat → Prop} : ∀ n, (fl c n = -1 ∧ ∀ p, p < n → ¬ c p) ∨ ∃ p : Nat, fl c n = p ∧ p < n ∧ c p ∧ ∀ q, q < p → ¬ c q
  | 0 => Or.inl ⟨rfl, fun p hp => absurd hp (Nat.not_lt_zero _)⟩
  | n + 1 => by
    rcases fl_spec (c := c) n with ⟨a, b⟩ | ⟨p, a, b, d, e⟩
    · rw [fl, a, if_neg (by omega)]
      by_cases q : c n
      · rw [if_pos q]; exact Or.inr ⟨n, rfl, by omega, q, b⟩
      · rw [if_neg q]
        refine Or.inl ⟨rfl, fun p hp => ?_⟩
        by_cases z : p = n
        · subst z; exact q
        · exact b p (by omega)
    · rw [fl, a, if_pos (by omega)]
      exact Or.inr ⟨p, rfl, by omega, d, e⟩
def cF (S : Nat → Int) (t r p : Nat) : Prop := S (18 + p) = r ∧ (t : Int) < S (58 + p) ∧ sfS S r = false ∧ farz S t (S (28 + p)).toNat + S (48 + p) = farz S t r ∧ farz S t r < 1000
noncomputable def fpz (S : Nat → Int) (t r : Nat) : Int := fl (cF S t r) (S 68).toNat
theorem fl_congr {c c' : Nat → Prop} : ∀ {n : Nat}, (∀ p, p < n → (c p ↔ c' p)) → fl c n = fl c' n
  | 0, _ => rfl
  | n + 1, h => by
    rw [fl, fl, fl_congr (fun p hp => h p (by omega))]
    by_cases q : c n
    · rw [if_pos q, if_pos ((h n (by omega)).mp q)]
    · rw [if_neg q, if_neg (fun z => q ((h n (by omega)).mpr z))]
theorem fpz_same {S : Nat → Int} {t t' r : Nat} (h : ∀ p : Nat, p < (S 68).toNat → ((t : Int) < S (58 + p) ↔ (t' : Int) < S (58 + p))) : fpz S t r = fpz S t' r := by
  unfold fpz
  refine fl_congr (fun p hp => ?_)
  unfold cF
  have e : farz S t = farz S t' := itz_same h 6
  rw [e, h p hp]
theorem fpz_safe {S : Nat → Int} {t r : Nat} (h : sfS S r = true) : fpz S t r = -1 := fl_none (fun p _ z => by have := z.2.2.1; rw [h] at this; exact absurd this (by decide))
