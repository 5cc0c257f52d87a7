/-! the reference's OUT and LAST -/
def suS (S : Nat → Int) : Nat → Int := fun r => if sfS S r = true then 0 else S r
/-- v is what is left behind at best -/
def MS (S : Nat → Int) (T : Nat) (v : Int) : Prop := (∃ E nl, FS S (suS S) T E nl ∧ sg nl 6 = v) ∧ ∀ E nl, FS S (suS S) T E nl → v ≤ sg nl 6
def AZ (S : Nat → Int) (T : Nat) : Prop := ∃ E nl, FS S (suS S) T E nl ∧ sg nl 6 = 0
theorem MS.one {S : Nat → Int} {T : Nat} {v w : Int} (h : MS S T v) (h' : MS S T w) : v = w := by
  obtain ⟨⟨E, nl, a1, a2⟩, a3⟩ := h
  obtain ⟨⟨E', nl', b1, b2⟩, b3⟩ := h'
  have := a3 E' nl' b1
  have := b3 E nl a1
  omega
theorem FS.nn {S su : Nat → Int} {T : Nat} {E nl : Nat → Int} (h : FS S su T E nl) : 0 ≤ sg nl 6 := sg_nonneg (fun r hr => (h.2.2.2.1 r hr).1)
theorem MS.zero {S : Nat → Int} {T : Nat} {v : Int} (h : MS S T v) : v = 0 ↔ AZ S T := by
  obtain ⟨⟨E, nl, a1, a2⟩, a3⟩ := h
  constructor
  · intro z; exact ⟨E, nl, a1, by omega⟩
  · rintro ⟨E', nl', b1, b2⟩
    have := a3 E' nl' b1
    have := a1.nn
    omega
theorem AZ.mono {S : Nat → Int} {T T' : Nat} (h : AZ S T) (hT : T ≤ T') : AZ S T' := by
  obtain ⟨E, nl, a1, a2⟩ := h
  exact ⟨E, nl, FL.mono a1 hT (fun _ _ => Int.le_refl _) (fun e he hne => (a1.2.1 e he hne).2.2.1), a2⟩
theorem suS_b {S : Nat → Int} (h : PV S) : ∀ r, r < 6 → 0 ≤ suS S r ∧ suS S r ≤ 30 ∧ (sfS S r = true → suS S r = 0) := by
  intro r hr
  have := h.1 r hr
  unfold suS
  by_cases q : sfS S r = true
  · rw [if_pos q]; exact ⟨by omega, by omega, fun _ => rfl⟩
  · rw [if_neg q]; exact ⟨by omega, by omega, fun z => absurd z q⟩
theorem FS.bounds {S : Nat → Int} {T : Nat} {E nl : Nat → Int} (hPV : PV S) (h : FS S (suS S) T E nl) :
    (∀ e, e < 976 → 0 ≤ E e ∧ E e ≤ 1000) ∧ (∀ e, e < 976 → E e ≠ 0 → sfS S (rz S 18 (e / 61)).toNat = false ∧ e % 61 + (lz S 1 48 (e / 61)).toNat ≤ T) ∧ (∀ r, r < 6 → 0 ≤ nl r ∧ nl r ≤ 1000) ∧ (∀ r, r < 6 → sfS S r = true → nl r = 0) ∧ 0 ≤ sg nl 6 ∧ sg nl 6 ≤ 180 := by
  have hNV := hPV.nv
  have hsu := suS_b hPV
  have hsum : sg (suS S) 6 ≤ 180 := by
    have h1 : sg (suS S) 6 ≤ sg (fun _ => 30) 6 := sg_le (fun r hr => (hsu r hr).2.1)
    exact h1
  have hnn : 0 ≤ sg nl 6 := sg_nonneg (fun r hr => (h.2.2.2.1 r hr).1)
  have hle : sg nl 6 ≤ sg (suS S) 6 := sg_le (fun r hr => (h.2.2.2.1 r hr).2)
  refine ⟨fun e he => ⟨h.1 e he, ?_⟩, fun e he hne => ⟨(h.2.1 e he hne).2.1, (h.2.1 e he hne).2.2.2⟩, fun r hr => ?_, fun r hr q => ?_, hnn, by omega⟩
  · by_cases q : e < 366
    · have w1 := FL.slice h (fun r hr q => (hsu r hr).2.2 q) (l := e / 61) (t := e % 61) (by omega) (by omega) (by
        show 1 ≤ (lz S 1 48 (e / 61)).toNat
        rw [lz_lo (by omega)]; decide)
      have w2 := sg_sub (suS S) nl 6
      rw [show e / 61 * 61 + e % 61 = e by omega] at w1
      omega
    · by_cases q2 : E e = 0
      · omega
      · have c := h.2.1 e he q2
        have c2 := h.2.2.1 e he (by omega) c.1
        have c3 := hNV.2.2.1 _ c.1
        omega
  · have := h.2.2.2.1 r hr
    have := hsu r hr
    omega
  · have := h.2.2.2.1 r hr
    have := (hsu r hr).2.2 q
    omega
section OutBy
variable {S : Nat → Int} {T : Nat}
theorem sp_clearNet {gs ws nl : Nat → Int} {T un : Int} (hPV : PV S) {post : ((Nat → Int) × (Nat → Int) × (Nat → Int) × Int) → Prop} (hp : ∀ gs ws nl : Nat → Int, (∀ k, k < 610 → gs k = 0) → (∀ k, k < 366 → ws k = 0) → (∀ r, r < 6 → nl r = suS S r) → post (gs, ws, nl, T)) : iv_X5_clearNet T S gs ws nl un post := by
  rw [iv_X5_clearNet]
  have k1 : ∀ {K : (Nat → Int) → Prop}, (∀ f : Nat → Int, (∀ k, k < 610 → f k = 0) → K f) → ∀ (d k : Nat) (f : Nat → Int), k + d = 610 → (∀ i, i < k → f i = 0) → iv_X5_clearNet_L7 K (d + 1) k f := by
    intro K hK d
    induction d with
    | zero =>
      intro k f hk hi
      rw [iv_X5_clearNet_L7]
      exact ⟨⟨smz (by omega) (by omega), smz (by omega) (by omega)⟩, fun _ => hK f (fun i h => hi i (by omega)), fun c => absurd (by omega) c⟩
    | succ d ih =>
      intro k f hk hi
      rw [iv_X5_clearNet_L7]
      simp only [Int.toNat_natCast]
      refine ⟨⟨smz (by omega) (by omega), smz (by omega) (by omega)⟩, fun c => by omega, fun c => ⟨by omega, fun x hx => ?_⟩⟩
      subst hx
      refine ih (k + 1) _ (by omega) (fun i h => ?_)
      by_cases q : i = k
      · subst q; rw [uz_s]
      · rw [uz_n q]; exact hi i (by omega)
  have k2 : ∀ {K : (Nat → Int) → Prop}, (∀ f : Nat → Int, (∀ k, k < 366 → f k = 0) → K f) → ∀ (d k : Nat) (f : Nat → Int), k + d = 366 → (∀ i, i < k → f i = 0) → iv_X5_clearNet_L29 K (d + 1) k f := by
    intro K hK d
    induction d with
    | zero =>
      intro k f hk hi
      rw [iv_X5_clearNet_L29]
      exact ⟨⟨smz (by omega) (by omega), smz (by omega) (by omega)⟩, fun _ => hK f (fun i h => hi i (by omega)), fun c => absurd (by omega) c⟩
    | succ d ih =>
      intro k f hk hi
      rw [iv_X5_clearNet_L29]
      simp only [Int.toNat_natCast]
      refine ⟨⟨smz (by omega) (by omega), smz (by omega) (by omega)⟩, fun c => by omega, fun c => ⟨by omega, fun x hx => ?_⟩⟩
      subst hx
      refine ih (k + 1) _ (by omega) (fun i h => ?_)
      by_cases q : i = k
      · subst q; rw [uz_s]
      · rw [uz_n q]; exact hi i (by omega)
  have k3 : ∀ {K : (Nat → Int) → Prop}, (∀ f : Nat → Int, (∀ r, r < 6 → f r = suS S r) → K f) → ∀ (d k : Nat) (f : Nat → Int), k + d = 6 → (∀ r, r < k → f r = suS S r) → iv_X5_clearNet_L51 K S (d + 1) k f := by
    intro K hK d
    induction d with
    | zero =>
      intro k f hk hi
      rw [iv_X5_clearNet_L51]
      exact ⟨⟨smz (by omega) (by omega), smz (by omega) (by omega)⟩, fun _ => hK f (fun i h => hi i (by omega)), fun c => absurd (by omega) c⟩
    | succ d ih =>
      intro k f hk hi
      rw [iv_X5_clearNet_L51]
      simp only [Int.toNat_natCast]
      have hb := (hPV.1 k (by omega)).2.2.2.2
      rw [show ((0 : Int) + (k : Int)).toNat = k by omega]
      refine ⟨⟨smz (by omega) (by omega), smz (by omega) (by omega)⟩, fun c => by omega, fun c => sp_isSafe (by omega) (by omega) ?_⟩
      have hstep : ∀ z : Int, z = suS S k → iv_X5_clearNet_L51 K S (d + 1) ((k : Int) + 1) (uz f k z) := by
        intro z hz
        refine ih (k + 1) _ (by omega) (fun i h => ?_)
        by_cases q : i = k
        · subst q; rw [uz_s]; exact hz
        · rw [uz_n q]; exact hi i (by omega)
      by_cases hs : sfS S k = true
      · rw [if_pos hs]
        refine ⟨⟨smz (by omega) (by omega), smz (by omega) (by omega)⟩, fun z => absurd z (by decide), fun _ => ⟨by omega, fun x hx => ?_⟩⟩
        subst hx
        exact hstep 0 (by unfold suS; rw [if_pos hs])
      · rw [if_neg hs]
        refine ⟨⟨smz (by omega) (by omega), smz (by omega) (by omega)⟩, fun _ => ⟨by omega, by omega, fun x hx => ?_⟩, fun z => absurd rfl z⟩
        subst hx
        exact hstep (S k) (by unfold suS; rw [if_neg hs])
  exact ⟨611, k1 (fun g hg => ⟨367, k2 (fun w hw => ⟨7, k3 (fun n hn => hp g w n hg hw hn) 6 0 nl (by omega) (fun r hr => absurd hr (Nat.not_lt_zero r))⟩) 366 0 ws (by omega) (fun r hr => absurd hr (Nat.not_lt_zero r))⟩) 610 0 gs (by omega) (fun r hr => absurd hr (Nat.not_lt_zero r))⟩
theorem out44 (hPV : PV S) (hT : T ≤ 60) {K : Int → (Nat → Int) → (Nat → Int) → (Nat → Int) → (Nat → Int) → (Nat → Int) → (Nat → Int) → Int → Int → Int → Prop}
    (hK : ∀ (v : Int) (gs ws nl cf cb wv : Nat → Int) (wn g gb : Int), MS S T v → K (sg S 6 - v) gs ws nl cf cb wv wn g gb) :
    ∀ (d : Nat) (v2 : Int) (gs ws nl cf cb wv : Nat → Int) (wn g gb : Int), FS S (suS S) T (ew gs ws) nl → sg nl 6 ≤ d → v2 = sg S 6 - sg nl 6 → iv_X5_outBy_L44 K S T (d + 1) v2 gs ws nl cf cb wv wn g gb
  | d, v2, gs, ws, nl, cf, cb, wv, wn, g, gb, hF, hd, hv => by
    obtain ⟨b1, b2, b3, b4, b5, b6⟩ := hF.bounds hPV
    rw [iv_X5_outBy_L44]
    refine sp_findWay hPV hT b1 b2 b3 b4 (fun u R hR => ?_) (fun cf1 cb1 wv1 wn1 rk1 p q h1 h2 h3 h4 => ?_)
    · refine ⟨⟨smz (by omega) (by omega), smz (by omega) (by omega)⟩, fun _ => ?_, fun z => absurd rfl z⟩
      rw [hv]
      exact hK (sg nl 6) gs ws nl _ _ _ _ _ _ ⟨⟨_, nl, hF, rfl⟩, fun E' nl' h' => FL.max (fun r hr q => (suS_b hPV r hr).2.2 q) hF h' hR⟩
    · refine ⟨⟨smz (by omega) (by omega), smz (by omega) (by omega)⟩, fun z => absurd z (by decide), fun _ => ?_⟩
      refine sp_fillWay hPV hT hF b1 b3 h1 h2 h3 h4 (fun w gs' ws' nl' w1 w2 w3 x hx => ?_)
      have hnn := w2.nn
      match d, hd with
      | 0, hd => omega
      | d + 1, hd => exact out44 hPV hT hK d x gs' ws' nl' cf1 cb1 wv1 wn1 p q w2 (by omega) (by omega)
theorem sp_outBy (hPV : PV S) (hT : T ≤ 60) {gs ws nl cf cb wv : Nat → Int} {wn g gb un : Int} {post : Int → ((Nat → Int) × (Nat → Int) × (Nat → Int) × (Nat → Int) × (Nat → Int) × (Nat → Int) × Int × Int × Int × Int) → Prop}
    (hp : ∀ (v : Int) u, MS S T v → post (sg S 6 - v) u) : iv_X5_outBy T S gs ws nl cf cb wv wn g gb un post := by
  have hNV := hPV.nv
  rw [iv_X5_outBy]
  refine sp_clearNet hPV (fun gs0 ws0 nl0 h1 h2 h3 => ?_)
  have hF : FS S (suS S) T (ew gs0 ws0) nl0 := FL.zero (fun e he => by
    unfold ew
    by_cases q : e < 366
    · rw [if_pos q]; exact h2 e q
    · rw [if_neg q]; exact h1 (e - 366) (by omega)) h3 (fun r hr => (suS_b hPV r hr).1) (fun l hl => by have := hNV.2.2.1 l hl; omega)
  obtain ⟨b1, b2, b3, b4, b5, b6⟩ := hF.bounds hPV
  have key : ∀ {K : Int → Prop}, K (sg S 6 - sg (suS S) 6) → ∀ (d k : Nat), k + d = 6 → iv_X5_outBy_L9 K S (d + 1) (sg S k - sg (suS S) k) k := by
    intro K hK d
    induction d with
    | zero =>
      intro k hk
      have : k = 6 := by omega
      subst this
      rw [iv_X5_outBy_L9]
      exact ⟨⟨smz (by omega) (by omega), smz (by omega) (by omega)⟩, fun _ => hK, fun c => absurd (by omega) c⟩
    | succ d ih =>
      intro k hk
      have hb := (hPV.1 k (by omega)).2.2.2.2
      rw [iv_X5_outBy_L9, show ((0 : Int) + (k : Int)).toNat = k by omega]
      have hi := ih (k + 1) (by omega)
      rw [show sg S (k + 1) = sg S k + S k from rfl, show sg (suS S) (k + 1) = sg (suS S) k + suS S k from rfl] at hi
      refine ⟨⟨smz (by omega) (by omega), smz (by omega) (by omega)⟩, fun c => by omega, fun c => sp_isSafe (by omega) (by omega) ?_⟩
      by_cases hs : sfS S k = true
      · rw [if_pos hs]
        have e1 : suS S k = 0 := by unfold suS; rw [if_pos hs]
        refine ⟨⟨smz (by omega) (by omega), smz (by omega) (by omega)⟩, fun z => absurd z (by decide), fun _ => ⟨by omega, fun x hx y hy => ?_⟩⟩
        subst hy
        rw [hx, show sg S k - sg (suS S) k + S k = sg S k + S k - (sg (suS S) k + suS S k) by omega]
        exact hi
      · rw [if_neg hs]
        have e1 : suS S k = S k := by unfold suS; rw [if_neg hs]
        refine ⟨⟨smz (by omega) (by omega), smz (by omega) (by omega)⟩, fun _ x hx y hy => ?_, fun z => absurd rfl z⟩
        subst hy
        rw [hx, show sg S k - sg (suS S) k + 0 = sg S k + S k - (sg (suS S) k + suS S k) by omega]
        exact hi
  refine ⟨7, ?_⟩
  have hk := key (K := fun k2_26 => (∃ n_53, iv_X5_outBy_L44 (fun k2_43 m_goes_44 m_waits_45 m_still_46 m_cameFrom_47 m_cameBy_48 m_wave_49 m_waved_50 m_goal_51 m_goalBy_52 => post k2_43 (m_goes_44, m_waits_45, m_still_46, m_cameFrom_47, m_cameBy_48, m_wave_49, m_waved_50, m_goal_51, m_goalBy_52, (T : Int))) S T n_53 k2_26 gs0 ws0 nl0 cf cb wv wn g gb)) ⟨(sg nl0 6).toNat + 1, ?_⟩ 6 0 (by omega)
  · exact hk
  · refine out44 hPV hT (fun v gs ws nl cf cb wv wn g gb h => hp v _ h) (sg nl0 6).toNat _ gs0 ws0 nl0 cf cb wv wn g gb hF (by omega) ?_
    rw [sg_congr h3]
/-- LAST -/
def LV (S : Nat → Int) (x : Int) : Prop := (x = -6 ∧ ¬ AZ S 60) ∨ (∃ t : Nat, x = t ∧ t ≤ 60 ∧ AZ S t ∧ ∀ t', t' < t → ¬ AZ S t')
theorem LV.one {x y : Int} (h : LV S x) (h' : LV S y) : x = y := by
  rcases h with ⟨a1, a2⟩ | ⟨t, a1, a2, a3, a4⟩ <;> rcases h' with ⟨b1, b2⟩ | ⟨t', b1, b2, b3, b4⟩
  · omega
  · exact absurd (b3.mono b2) a2
  · exact absurd (a3.mono a2) b2
  · by_cases q : t < t'
    · exact absurd a3 (b4 t q)
    · by_cases q2 : t' < t
      · exact absurd b3 (a4 t' q2)
      · omega
theorem sp_people {post : Int → Unit → Prop} (hp : post (sg S 6) ()) : iv_X5_people S post := by
  rw [iv_X5_people]
  have key : ∀ (d k : Nat), k + d = 6 → iv_X5_people_L4 (fun k1_9 => post k1_9 ()) S (d + 1) (sg S k) k := by
    intro d
    induction d with
    | zero =>
      intro k hk
      rw [iv_X5_people_L4]
      have : k = 6 := by omega
      subst this
      exact ⟨⟨smz (by omega) (by omega), smz (by omega) (by omega)⟩, fun _ => hp, fun c => absurd (by omega) c⟩
    | succ d ih =>
      intro k hk
      rw [iv_X5_people_L4, show ((0 : Int) + (k : Int)).toNat = k by omega]
      refine ⟨⟨smz (by omega) (by omega), smz (by omega) (by omega)⟩, fun c => by omega, fun c => ⟨by omega, fun x hx y hy => ?_⟩⟩
      subst hx hy
      exact ih (k + 1) (by omega)
  exact ⟨7, key 6 0 (by omega)⟩
theorem PV.sum {S : Nat → Int} (h : PV S) : 0 ≤ sg S 6 ∧ sg S 6 ≤ 180 := by
  refine ⟨sg_nonneg (fun r hr => (h.1 r hr).1), ?_⟩
  have h1 : sg S 6 ≤ sg (fun _ => 30) 6 := sg_le (fun r hr => (h.1 r hr).2.1)
  exact h1
theorem MS.b {S : Nat → Int} {T : Nat} {v : Int} (hPV : PV S) (h : MS S T v) : 0 ≤ v ∧ v ≤ 180 := by
  obtain ⟨⟨E, nl, a1, a2⟩, _⟩ := h
  have := (a1.bounds hPV).2.2.2.2
  omega
theorem last23 (hPV : PV S) {K : Int → (Nat → Int) → (Nat → Int) → (Nat → Int) → (Nat → Int) → (Nat → Int) → (Nat → Int) → Int → Int → Int → Int → Prop}
    (hK : ∀ (x : Int) (gs ws nl cf cb wv : Nat → Int) (wn g gb un : Int), LV S x → K x gs ws nl cf cb wv wn g gb un) :
    ∀ (d : Nat) (v2 v3 : Int) (gs ws nl cf cb wv : Nat → Int) (wn g gb un : Int), -1 ≤ v2 → v2 < v3 → v3 ≤ 60 → v3 - v2 ≤ d + 1 → AZ S v3.toNat → (0 ≤ v2 → ¬ AZ S v2.toNat) → iv_X5_lastOne_L23 K (sg S 6) S (d + 1) v2 v3 gs ws nl cf cb wv wn g gb un
  | d, v2, v3, gs, ws, nl, cf, cb, wv, wn, g, gb, un, h1, h2, h3, hd, h4, h5 => by
    have hs := hPV.sum
    rw [iv_X5_lastOne_L23]
    refine ⟨⟨smz (by omega) (by omega), smz (by omega) (by omega)⟩, fun c => ?_, fun c => ⟨by unfold zn; omega, fun x4 hx4 => ?_⟩⟩
    · refine hK _ _ _ _ _ _ _ _ _ _ _ (Or.inr ⟨v3.toNat, by omega, by omega, h4, fun t' ht' hz => ?_⟩)
      exact h5 (by omega) (hz.mono (by omega))
    · obtain ⟨t, ht⟩ : ∃ t : Nat, x4 = t := ⟨x4.toNat, by omega⟩
      subst ht
      match d, hd with
      | 0, hd => omega
      | d + 1, hd =>
      refine sp_outBy hPV (by omega) (fun v u hv => ?_)
      have hb := hv.b hPV
      have hz := hv.zero
      refine ⟨⟨smz (by omega) (by omega), smz (by omega) (by omega)⟩, fun c2 => ?_, fun c2 => ?_⟩
      · exact last23 hPV hK d t v3 _ _ _ _ _ _ _ _ _ _ (by omega) (by omega) h3 (by omega) h4 (fun _ q => c2 (by rw [Int.toNat_natCast] at q; have := hz.mpr q; omega))
      · exact last23 hPV hK d v2 t _ _ _ _ _ _ _ _ _ _ h1 (by omega) (by omega) (by omega) (by rw [Int.toNat_natCast]; exact hz.mp (by omega)) h5
theorem sp_lastOne (hPV : PV S) {gs ws nl cf cb wv : Nat → Int} {wn g gb un : Int} {post : Int → ((Nat → Int) × (Nat → Int) × (Nat → Int) × (Nat → Int) × (Nat → Int) × (Nat → Int) × Int × Int × Int × Int) → Prop}
    (hp : ∀ (x : Int) u, LV S x → post x u) : iv_X5_lastOne S gs ws nl cf cb wv wn g gb un post := by
  have hs := hPV.sum
  rw [iv_X5_lastOne]
  refine sp_people (sp_outBy (T := 60) hPV (by omega) (fun v u hv => ?_))
  have hb := hv.b hPV
  have hz := hv.zero
  refine ⟨⟨smz (by omega) (by omega), smz (by omega) (by omega)⟩, fun c => ⟨62, last23 hPV (fun x gs ws nl cf cb wv wn g gb un hx => hp x _ hx) 61 (-1) 60 _ _ _ _ _ _ _ _ _ _ (by omega) (by omega) (by omega) (by omega) (hz.mp (by omega)) (fun q => absurd q (by decide))⟩, fun c => hp _ _ (Or.inl ⟨rfl, fun q => c (by have := hz.mpr q; omega)⟩)⟩
end OutBy
