def iv_X5_in (a0 : Int) (a1 : Int) (a2 : Int) (post : Int → Unit → Prop) : Prop :=
  ((sm a0 ∧ sm a1) ∧ ((a0 < a1 → post 0 ()) ∧ (¬ a0 < a1 → ((sm a2 ∧ sm a0) ∧ ((a2 < a0 → post 0 ()) ∧ (¬ a2 < a0 → post 1 ()))))))

set_option maxHeartbeats 4000000 in
theorem lift_X5_in {a0' : Int32} {a0 : Int} {a1' : Int32} {a1 : Int} {a2' : Int32} {a2 : Int} (e_a0 : a0' = iz a0) (e_a1 : a1' = iz a1) (e_a2 : a2' = iz a2) {post0 : Int32 → Unit → Prop} {post : Int → Unit → Prop} (hv : iv_X5_in a0 a1 a2 post) (hp : ∀ (r : Int) (u : Unit) (x : Int32) (y : Unit), post r u → x = iz r → y = () → post0 x y) : vc_X5_in a0' a1' a2' post0 := by
  subst e_a0
  subst e_a1
  subst e_a2
  rw [iv_X5_in] at hv
  rw [vc_X5_in]
  obtain ⟨hs_1, hv⟩ := hv
  have q_2 := z_lt (x := (iz a0)) (a := a0) (by first | with_reducible rfl | simp only [zl, iz_add, iz_sub, iz_mul, iz_neg]) (y := (iz a1)) (b := a1) (by first | with_reducible rfl | simp only [zl, iz_add, iz_sub, iz_mul, iz_neg]) hs_1.1 hs_1.2
  refine ⟨fun c9 => ?_, fun c9 => ?_⟩
  · have hv := hv.1 (q_2.mp c9)
    exact hp _ _ _ _ hv (by first | with_reducible rfl | simp only [zl, iz_add, iz_sub, iz_mul, iz_neg]) (by first | with_reducible rfl | simp only [zl, iz_add, iz_sub, iz_mul, iz_neg])
  · have hv := hv.2 (fun z9 => c9 (q_2.mpr z9))
    obtain ⟨hs_3, hv⟩ := hv
    have q_4 := z_lt (x := (iz a2)) (a := a2) (by first | with_reducible rfl | simp only [zl, iz_add, iz_sub, iz_mul, iz_neg]) (y := (iz a0)) (b := a0) (by first | with_reducible rfl | simp only [zl, iz_add, iz_sub, iz_mul, iz_neg]) hs_3.1 hs_3.2
    refine ⟨fun c9 => ?_, fun c9 => ?_⟩
    · have hv := hv.1 (q_4.mp c9)
      exact hp _ _ _ _ hv (by first | with_reducible rfl | simp only [zl, iz_add, iz_sub, iz_mul, iz_neg]) (by first | with_reducible rfl | simp only [zl, iz_add, iz_sub, iz_mul, iz_neg])
    · have hv := hv.2 (fun z9 => c9 (q_4.mpr z9))
      exact hp _ _ _ _ hv (by first | with_reducible rfl | simp only [zl, iz_add, iz_sub, iz_mul, iz_neg]) (by first | with_reducible rfl | simp only [zl, iz_add, iz_sub, iz_mul, iz_neg])

def iv_X5_isRoom (a0 : Int) (post : Int → Unit → Prop) : Prop :=
  (iv_X5_in a0 0 5 (fun (r_2 : Int) (u_1 : Unit) => ((r_2 = 0 ∨ r_2 = 1) ∧ post r_2 ())))

set_option maxHeartbeats 4000000 in
theorem lift_X5_isRoom {a0' : Int32} {a0 : Int} (e_a0 : a0' = iz a0) {post0 : Int32 → Unit → Prop} {post : Int → Unit → Prop} (hv : iv_X5_isRoom a0 post) (hp : ∀ (r : Int) (u : Unit) (x : Int32) (y : Unit), post r u → x = iz r → y = () → post0 x y) : vc_X5_isRoom a0' post0 := by
  subst e_a0
  rw [iv_X5_isRoom] at hv
  rw [vc_X5_isRoom]
  refine lift_X5_in (by first | with_reducible rfl | simp only [zl, iz_add, iz_sub, iz_mul, iz_neg]) (by first | with_reducible rfl | simp only [zl, iz_add, iz_sub, iz_mul, iz_neg]) (by first | with_reducible rfl | simp only [zl, iz_add, iz_sub, iz_mul, iz_neg]) hv (fun r_2 u_1 y_3 y_4 hv er_5 eu_6 => ?_)
  subst er_5; subst eu_6
  try dsimp only
  refine ⟨z_nar (by first | with_reducible rfl | simp only [zl, iz_add, iz_sub, iz_mul, iz_neg]) hv.1, hp _ _ _ _ hv.2 (by first | with_reducible rfl | simp only [zl, iz_add, iz_sub, iz_mul, iz_neg]) (by first | with_reducible rfl | simp only [zl, iz_add, iz_sub, iz_mul, iz_neg])⟩

def iv_X5_many (m_state : (Nat → Int)) (post : Int → Unit → Prop) : Prop :=
  post (m_state 68) ()

set_option maxHeartbeats 4000000 in
theorem lift_X5_many {m_state' : (Nat → Int32)} {m_state : (Nat → Int)} (e_m_state : m_state' = az m_state) {post0 : Int32 → Unit → Prop} {post : Int → Unit → Prop} (hv : iv_X5_many m_state post) (hp : ∀ (r : Int) (u : Unit) (x : Int32) (y : Unit), post r u → x = iz r → y = () → post0 x y) : vc_X5_many m_state' post0 := by
  subst e_m_state
  rw [iv_X5_many] at hv
  rw [vc_X5_many]
  have e_1 : ((az m_state) 68) = iz (m_state 68) := z_at0 (by first | with_reducible rfl | simp only [zl, iz_add, iz_sub, iz_mul, iz_neg])
  try rw [e_1]
  exact hp _ _ _ _ hv (by first | with_reducible rfl | simp only [zl, iz_add, iz_sub, iz_mul, iz_neg]) (by first | with_reducible rfl | simp only [zl, iz_add, iz_sub, iz_mul, iz_neg])

def iv_X5_isPassage (a1 : Int) (m_state : (Nat → Int)) (post : Int → Unit → Prop) : Prop :=
  (iv_X5_many m_state (fun (r_2 : Int) (u_1 : Unit) => (iv_X5_in a1 0 (r_2 - 1) (fun (r_8 : Int) (u_7 : Unit) => ((r_8 = 0 ∨ r_8 = 1) ∧ post r_8 ())))))

set_option maxHeartbeats 4000000 in
theorem lift_X5_isPassage {a1' : Int32} {a1 : Int} {m_state' : (Nat → Int32)} {m_state : (Nat → Int)} (e_a1 : a1' = iz a1) (e_m_state : m_state' = az m_state) {post0 : Int32 → Unit → Prop} {post : Int → Unit → Prop} (hv : iv_X5_isPassage a1 m_state post) (hp : ∀ (r : Int) (u : Unit) (x : Int32) (y : Unit), post r u → x = iz r → y = () → post0 x y) : vc_X5_isPassage a1' m_state' post0 := by
  subst e_a1
  subst e_m_state
  rw [iv_X5_isPassage] at hv
  rw [vc_X5_isPassage]
  refine lift_X5_many (by first | with_reducible rfl | simp only [zl, iz_add, iz_sub, iz_mul, iz_neg]) hv (fun r_2 u_1 y_3 y_4 hv er_5 eu_6 => ?_)
  subst er_5; subst eu_6
  try dsimp only
  refine lift_X5_in (by first | with_reducible rfl | simp only [zl, iz_add, iz_sub, iz_mul, iz_neg]) (by first | with_reducible rfl | simp only [zl, iz_add, iz_sub, iz_mul, iz_neg]) (by first | with_reducible rfl | simp only [zl, iz_add, iz_sub, iz_mul, iz_neg]) hv (fun r_8 u_7 y_9 y_10 hv er_11 eu_12 => ?_)
  subst er_11; subst eu_12
  try dsimp only
  refine ⟨z_nar (by first | with_reducible rfl | simp only [zl, iz_add, iz_sub, iz_mul, iz_neg]) hv.1, hp _ _ _ _ hv.2 (by first | with_reducible rfl | simp only [zl, iz_add, iz_sub, iz_mul, iz_neg]) (by first | with_reducible rfl | simp only [zl, iz_add, iz_sub, iz_mul, iz_neg])⟩

def iv_X5_isSafe (a1 : Int) (m_state : (Nat → Int)) (post : Int → Unit → Prop) : Prop :=
  ((0 ≤ (12 + a1) ∧ (12 + a1) < 69) ∧ ((sm (m_state ((12 + a1)).toNat) ∧ sm 1) ∧ ((¬ (m_state ((12 + a1)).toNat) = 1 → post 0 ()) ∧ ((m_state ((12 + a1)).toNat) = 1 → post 1 ()))))

set_option maxHeartbeats 4000000 in
theorem lift_X5_isSafe {a1' : Int32} {a1 : Int} {m_state' : (Nat → Int32)} {m_state : (Nat → Int)} (e_a1 : a1' = iz a1) (e_m_state : m_state' = az m_state) {post0 : Int32 → Unit → Prop} {post : Int → Unit → Prop} (hv : iv_X5_isSafe a1 m_state post) (hp : ∀ (r : Int) (u : Unit) (x : Int32) (y : Unit), post r u → x = iz r → y = () → post0 x y) : vc_X5_isSafe a1' m_state' post0 := by
  subst e_a1
  subst e_m_state
  rw [iv_X5_isSafe] at hv
  rw [vc_X5_isSafe]
  obtain ⟨hi_1, hv⟩ := hv
  refine ⟨z_in (by first | with_reducible rfl | simp only [zl, iz_add, iz_sub, iz_mul, iz_neg]) hi_1 (by decide), ?_⟩
  have e_2 : ((az m_state) ((12 + (iz a1))).toNatClampNeg) = iz (m_state ((12 + a1)).toNat) := z_at (by first | with_reducible rfl | simp only [zl, iz_add, iz_sub, iz_mul, iz_neg]) (by first | with_reducible rfl | simp only [zl, iz_add, iz_sub, iz_mul, iz_neg]) hi_1 (by decide)
  try rw [e_2]
  obtain ⟨hs_3, hv⟩ := hv
  have q_4 := z_eq (x := (iz (m_state ((12 + a1)).toNat))) (a := (m_state ((12 + a1)).toNat)) (by first | with_reducible rfl | simp only [zl, iz_add, iz_sub, iz_mul, iz_neg]) (y := 1) (b := 1) (by first | with_reducible rfl | simp only [zl, iz_add, iz_sub, iz_mul, iz_neg]) hs_3.1 hs_3.2
  refine ⟨fun c9 => ?_, fun c9 => ?_⟩
  · have hv := hv.1 (fun z9 => c9 (q_4.mpr z9))
    exact hp _ _ _ _ hv (by first | with_reducible rfl | simp only [zl, iz_add, iz_sub, iz_mul, iz_neg]) (by first | with_reducible rfl | simp only [zl, iz_add, iz_sub, iz_mul, iz_neg])
  · have hv := hv.2 (q_4.mp c9)
    exact hp _ _ _ _ hv (by first | with_reducible rfl | simp only [zl, iz_add, iz_sub, iz_mul, iz_neg]) (by first | with_reducible rfl | simp only [zl, iz_add, iz_sub, iz_mul, iz_neg])

def iv_X5_people_L4 (K : Int → Prop) (m_state : (Nat → Int)) : Nat → Int → Int → Prop
  | 0, _, _ => False
  | n + 1, v1, v2 =>
    ((sm 6 ∧ sm v2) ∧ ((6 ≤ v2 → K v1) ∧ (¬ 6 ≤ v2 → ((0 ≤ (0 + v2) ∧ (0 + v2) < 69) ∧ (∀ x1_5 : Int, x1_5 = (v1 + (m_state ((0 + v2)).toNat)) → (∀ x2_7 : Int, x2_7 = v2 + 1 → iv_X5_people_L4 K m_state n x1_5 x2_7))))))

set_option maxHeartbeats 4000000 in
theorem lift_X5_people_L4 {K0 : Int32 → Prop} {K : Int → Prop} {m_state' : (Nat → Int32)} {m_state : (Nat → Int)} (e_m_state : m_state' = az m_state)  (hKx : ∀ (k1' : Int32) (k1 : Int), K k1 → k1' = iz k1 →  K0 k1') :
    ∀ (n : Nat) (v1' : Int32) (v2' : Int32) (v1 : Int) (v2 : Int) (e_v1 : v1' = iz v1) (e_v2 : v2' = iz v2), iv_X5_people_L4 K m_state n v1 v2 → vc_X5_people_L4 K0 m_state' n v1' v2' := by
  subst e_m_state
  intro n
  induction n with
  | zero =>
    intro v1' v2' v1 v2 e_v1 e_v2 hv
    exact False.elim hv
  | succ n ih =>
    intro v1' v2' v1 v2 e_v1 e_v2 hv
    subst e_v1
    subst e_v2
    rw [iv_X5_people_L4] at hv
    rw [vc_X5_people_L4]
    obtain ⟨hs_1, hv⟩ := hv
    have q_2 := z_le (x := 6) (a := 6) (by first | with_reducible rfl | simp only [zl, iz_add, iz_sub, iz_mul, iz_neg]) (y := (iz v2)) (b := v2) (by first | with_reducible rfl | simp only [zl, iz_add, iz_sub, iz_mul, iz_neg]) hs_1.1 hs_1.2
    refine ⟨fun c9 => ?_, fun c9 => ?_⟩
    · have hv := hv.1 (q_2.mp c9)
      exact hKx _ v1 hv (by first | with_reducible rfl | simp only [zl, iz_add, iz_sub, iz_mul, iz_neg])
    · have hv := hv.2 (fun z9 => c9 (q_2.mpr z9))
      obtain ⟨hi_3, hv⟩ := hv
      refine ⟨z_in (by first | with_reducible rfl | simp only [zl, iz_add, iz_sub, iz_mul, iz_neg]) hi_3 (by decide), ?_⟩
      have e_4 : ((az m_state) ((0 + (iz v2))).toNatClampNeg) = iz (m_state ((0 + v2)).toNat) := z_at (by first | with_reducible rfl | simp only [zl, iz_add, iz_sub, iz_mul, iz_neg]) (by first | with_reducible rfl | simp only [zl, iz_add, iz_sub, iz_mul, iz_neg]) hi_3 (by decide)
      try rw [e_4]
      intro y_6 hy_6
      obtain ⟨x1_5, hx1_5⟩ : ∃ z : Int, z = (v1 + (m_state ((0 + v2)).toNat)) := ⟨_, rfl⟩
      have hv := hv x1_5 hx1_5
      have ey_6 : y_6 = iz x1_5 := by rw [hy_6, hx1_5]; try exact (by first | with_reducible rfl | simp only [zl, iz_add, iz_sub, iz_mul, iz_neg])
      subst ey_6
      intro y_8 hy_8
      obtain ⟨x2_7, hx2_7⟩ : ∃ z : Int, z = v2 + 1 := ⟨_, rfl⟩
      have hv := hv x2_7 hx2_7
      have ey_8 : y_8 = iz x2_7 := by rw [hy_8, hx2_7]; try exact (by first | with_reducible rfl | simp only [zl, iz_add, iz_sub, iz_mul, iz_neg])
      subst ey_8
      exact ih _ _ x1_5 x2_7 (by first | with_reducible rfl | simp only [zl, iz_add, iz_sub, iz_mul, iz_neg]) (by first | with_reducible rfl | simp only [zl, iz_add, iz_sub, iz_mul, iz_neg]) hv

def iv_X5_people (m_state : (Nat → Int)) (post : Int → Unit → Prop) : Prop :=
  (∃ n_10, iv_X5_people_L4 (fun k1_9 => post k1_9 ())  m_state n_10 0 0)

set_option maxHeartbeats 4000000 in
theorem lift_X5_people {m_state' : (Nat → Int32)} {m_state : (Nat → Int)} (e_m_state : m_state' = az m_state) {post0 : Int32 → Unit → Prop} {post : Int → Unit → Prop} (hv : iv_X5_people m_state post) (hp : ∀ (r : Int) (u : Unit) (x : Int32) (y : Unit), post r u → x = iz r → y = () → post0 x y) : vc_X5_people m_state' post0 := by
  subst e_m_state
  rw [iv_X5_people] at hv
  rw [vc_X5_people]
  obtain ⟨n_10, hv⟩ := hv
  refine ⟨n_10, lift_X5_people_L4 (by first | with_reducible rfl | simp only [zl, iz_add, iz_sub, iz_mul, iz_neg]) (fun y_11 k1_9 hv ey_12 => ?_)  n_10 _ _ 0 0 (by first | with_reducible rfl | simp only [zl, iz_add, iz_sub, iz_mul, iz_neg]) (by first | with_reducible rfl | simp only [zl, iz_add, iz_sub, iz_mul, iz_neg]) hv⟩
  subst ey_12
  exact hp _ _ _ _ hv (by first | with_reducible rfl | simp only [zl, iz_add, iz_sub, iz_mul, iz_neg]) (by first | with_reducible rfl | simp only [zl, iz_add, iz_sub, iz_mul, iz_neg])

def iv_X5_room (a1 : Int) (a2 : Int) (a3 : Int) (m_state : (Nat → Int)) (post : Int → (Nat → Int) → Prop) : Prop :=
  (iv_X5_isRoom a1 (fun (r_2 : Int) (u_1 : Unit) => ((sm r_2 ∧ sm 0) ∧ ((¬ r_2 = 0 → (iv_X5_in a2 0 30 (fun (r_10 : Int) (u_9 : Unit) => ((sm r_10 ∧ sm 0) ∧ ((r_10 = 0 → post (-2) m_state) ∧ (¬ r_10 = 0 → (iv_X5_in a3 1 99 (fun (r_18 : Int) (u_17 : Unit) => ((sm r_18 ∧ sm 0) ∧ ((¬ r_18 = 0 → ((0 ≤ (0 + a1) ∧ (0 + a1) < 69) ∧ (∀ x4_27 : Int, x4_27 = (m_state ((0 + a1)).toNat) → ((0 ≤ (0 + a1) ∧ (0 + a1) < 69) ∧ ((0 ≤ (6 + a1) ∧ (6 + a1) < 69) ∧ post x4_27 (uz (uz m_state ((0 + a1)).toNat a2) ((6 + a1)).toNat a3)))))) ∧ (r_18 = 0 → post (-2) m_state))))))))))) ∧ (r_2 = 0 → post (-1) m_state)))))

set_option maxHeartbeats 4000000 in
theorem lift_X5_room {a1' : Int32} {a1 : Int} {a2' : Int32} {a2 : Int} {a3' : Int32} {a3 : Int} {m_state' : (Nat → Int32)} {m_state : (Nat → Int)} (e_a1 : a1' = iz a1) (e_a2 : a2' = iz a2) (e_a3 : a3' = iz a3) (e_m_state : m_state' = az m_state) {post0 : Int32 → (Nat → Int32) → Prop} {post : Int → (Nat → Int) → Prop} (hv : iv_X5_room a1 a2 a3 m_state post) (hp : ∀ (r : Int) (u : (Nat → Int)) (x : Int32) (y : (Nat → Int32)), post r u → x = iz r → y = az u → post0 x y) : vc_X5_room a1' a2' a3' m_state' post0 := by
  subst e_a1
  subst e_a2
  subst e_a3
  subst e_m_state
  rw [iv_X5_room] at hv
  rw [vc_X5_room]
  refine lift_X5_isRoom (by first | with_reducible rfl | simp only [zl, iz_add, iz_sub, iz_mul, iz_neg]) hv (fun r_2 u_1 y_3 y_4 hv er_5 eu_6 => ?_)
  subst er_5; subst eu_6
  try dsimp only
  obtain ⟨hs_7, hv⟩ := hv
  have q_8 := z_eq (x := (iz r_2)) (a := r_2) (by first | with_reducible rfl | simp only [zl, iz_add, iz_sub, iz_mul, iz_neg]) (y := 0) (b := 0) (by first | with_reducible rfl | simp only [zl, iz_add, iz_sub, iz_mul, iz_neg]) hs_7.1 hs_7.2
  refine ⟨fun c9 => ?_, fun c9 => ?_⟩
  · have hv := hv.1 (fun z9 => c9 (q_8.mpr z9))
    refine lift_X5_in (by first | with_reducible rfl | simp only [zl, iz_add, iz_sub, iz_mul, iz_neg]) (by first | with_reducible rfl | simp only [zl, iz_add, iz_sub, iz_mul, iz_neg]) (by first | with_reducible rfl | simp only [zl, iz_add, iz_sub, iz_mul, iz_neg]) hv (fun r_10 u_9 y_11 y_12 hv er_13 eu_14 => ?_)
    subst er_13; subst eu_14
    try dsimp only
    obtain ⟨hs_15, hv⟩ := hv
    have q_16 := z_eq (x := (iz r_10)) (a := r_10) (by first | with_reducible rfl | simp only [zl, iz_add, iz_sub, iz_mul, iz_neg]) (y := 0) (b := 0) (by first | with_reducible rfl | simp only [zl, iz_add, iz_sub, iz_mul, iz_neg]) hs_15.1 hs_15.2
    refine ⟨fun c9 => ?_, fun c9 => ?_⟩
    · have hv := hv.1 (q_16.mp c9)
      exact hp _ _ _ _ hv (by first | with_reducible rfl | simp only [zl, iz_add, iz_sub, iz_mul, iz_neg]) (by first | with_reducible rfl | simp only [zl, iz_add, iz_sub, iz_mul, iz_neg])
    · have hv := hv.2 (fun z9 => c9 (q_16.mpr z9))
      refine lift_X5_in (by first | with_reducible rfl | simp only [zl, iz_add, iz_sub, iz_mul, iz_neg]) (by first | with_reducible rfl | simp only [zl, iz_add, iz_sub, iz_mul, iz_neg]) (by first | with_reducible rfl | simp only [zl, iz_add, iz_sub, iz_mul, iz_neg]) hv (fun r_18 u_17 y_19 y_20 hv er_21 eu_22 => ?_)
      subst er_21; subst eu_22
      try dsimp only
      obtain ⟨hs_23, hv⟩ := hv
      have q_24 := z_eq (x := (iz r_18)) (a := r_18) (by first | with_reducible rfl | simp only [zl, iz_add, iz_sub, iz_mul, iz_neg]) (y := 0) (b := 0) (by first | with_reducible rfl | simp only [zl, iz_add, iz_sub, iz_mul, iz_neg]) hs_23.1 hs_23.2
      refine ⟨fun c9 => ?_, fun c9 => ?_⟩
      · have hv := hv.1 (fun z9 => c9 (q_24.mpr z9))
        obtain ⟨hi_25, hv⟩ := hv
        refine ⟨z_in (by first | with_reducible rfl | simp only [zl, iz_add, iz_sub, iz_mul, iz_neg]) hi_25 (by decide), ?_⟩
        have e_26 : ((az m_state) ((0 + (iz a1))).toNatClampNeg) = iz (m_state ((0 + a1)).toNat) := z_at (by first | with_reducible rfl | simp only [zl, iz_add, iz_sub, iz_mul, iz_neg]) (by first | with_reducible rfl | simp only [zl, iz_add, iz_sub, iz_mul, iz_neg]) hi_25 (by decide)
        try rw [e_26]
        intro y_28 hy_28
        obtain ⟨x4_27, hx4_27⟩ : ∃ z : Int, z = (m_state ((0 + a1)).toNat) := ⟨_, rfl⟩
        have hv := hv x4_27 hx4_27
        have ey_28 : y_28 = iz x4_27 := by rw [hy_28, hx4_27]; try exact (by first | with_reducible rfl | simp only [zl, iz_add, iz_sub, iz_mul, iz_neg])
        subst ey_28
        obtain ⟨hi_29, hv⟩ := hv
        refine ⟨z_in (by first | with_reducible rfl | simp only [zl, iz_add, iz_sub, iz_mul, iz_neg]) hi_29 (by decide), ?_⟩
        have e_30 : (upd (az m_state) ((0 + (iz a1))).toNatClampNeg (iz a2)) = az (uz m_state ((0 + a1)).toNat a2) := z_upd (by first | with_reducible rfl | simp only [zl, iz_add, iz_sub, iz_mul, iz_neg]) (by first | with_reducible rfl | simp only [zl, iz_add, iz_sub, iz_mul, iz_neg]) (by first | with_reducible rfl | simp only [zl, iz_add, iz_sub, iz_mul, iz_neg]) hi_29 (by decide)
        try rw [e_30]
        obtain ⟨hi_31, hv⟩ := hv
        refine ⟨z_in (by first | with_reducible rfl | simp only [zl, iz_add, iz_sub, iz_mul, iz_neg]) hi_31 (by decide), ?_⟩
        have e_32 : (upd (az (uz m_state ((0 + a1)).toNat a2)) ((6 + (iz a1))).toNatClampNeg (iz a3)) = az (uz (uz m_state ((0 + a1)).toNat a2) ((6 + a1)).toNat a3) := z_upd (by first | with_reducible rfl | simp only [zl, iz_add, iz_sub, iz_mul, iz_neg]) (by first | with_reducible rfl | simp only [zl, iz_add, iz_sub, iz_mul, iz_neg]) (by first | with_reducible rfl | simp only [zl, iz_add, iz_sub, iz_mul, iz_neg]) hi_31 (by decide)
        try rw [e_32]
        exact hp _ _ _ _ hv (by first | with_reducible rfl | simp only [zl, iz_add, iz_sub, iz_mul, iz_neg]) (by first | with_reducible rfl | simp only [zl, iz_add, iz_sub, iz_mul, iz_neg])
      · have hv := hv.2 (q_24.mp c9)
        exact hp _ _ _ _ hv (by first | with_reducible rfl | simp only [zl, iz_add, iz_sub, iz_mul, iz_neg]) (by first | with_reducible rfl | simp only [zl, iz_add, iz_sub, iz_mul, iz_neg])
  · have hv := hv.2 (q_8.mp c9)
    exact hp _ _ _ _ hv (by first | with_reducible rfl | simp only [zl, iz_add, iz_sub, iz_mul, iz_neg]) (by first | with_reducible rfl | simp only [zl, iz_add, iz_sub, iz_mul, iz_neg])

def iv_X5_safe_L36 (K : Int → Prop) (m_state : (Nat → Int)) : Nat → Int → Int → Prop
  | 0, _, _ => False
  | n + 1, v3, v4 =>
    ((sm 6 ∧ sm v4) ∧ ((6 ≤ v4 → K v3) ∧ (¬ 6 ≤ v4 → ((0 ≤ (12 + v4) ∧ (12 + v4) < 69) ∧ (∀ x3_23 : Int, x3_23 = (v3 + (m_state ((12 + v4)).toNat)) → (∀ x4_25 : Int, x4_25 = v4 + 1 → iv_X5_safe_L36 K m_state n x3_23 x4_25))))))

set_option maxHeartbeats 4000000 in
theorem lift_X5_safe_L36 {K0 : Int32 → Prop} {K : Int → Prop} {m_state' : (Nat → Int32)} {m_state : (Nat → Int)} (e_m_state : m_state' = az m_state)  (hKx : ∀ (k3' : Int32) (k3 : Int), K k3 → k3' = iz k3 →  K0 k3') :
    ∀ (n : Nat) (v3' : Int32) (v4' : Int32) (v3 : Int) (v4 : Int) (e_v3 : v3' = iz v3) (e_v4 : v4' = iz v4), iv_X5_safe_L36 K m_state n v3 v4 → vc_X5_safe_L36 K0 m_state' n v3' v4' := by
  subst e_m_state
  intro n
  induction n with
  | zero =>
    intro v3' v4' v3 v4 e_v3 e_v4 hv
    exact False.elim hv
  | succ n ih =>
    intro v3' v4' v3 v4 e_v3 e_v4 hv
    subst e_v3
    subst e_v4
    rw [iv_X5_safe_L36] at hv
    rw [vc_X5_safe_L36]
    obtain ⟨hs_19, hv⟩ := hv
    have q_20 := z_le (x := 6) (a := 6) (by first | with_reducible rfl | simp only [zl, iz_add, iz_sub, iz_mul, iz_neg]) (y := (iz v4)) (b := v4) (by first | with_reducible rfl | simp only [zl, iz_add, iz_sub, iz_mul, iz_neg]) hs_19.1 hs_19.2
    refine ⟨fun c9 => ?_, fun c9 => ?_⟩
    · have hv := hv.1 (q_20.mp c9)
      exact hKx _ v3 hv (by first | with_reducible rfl | simp only [zl, iz_add, iz_sub, iz_mul, iz_neg])
    · have hv := hv.2 (fun z9 => c9 (q_20.mpr z9))
      obtain ⟨hi_21, hv⟩ := hv
      refine ⟨z_in (by first | with_reducible rfl | simp only [zl, iz_add, iz_sub, iz_mul, iz_neg]) hi_21 (by decide), ?_⟩
      have e_22 : ((az m_state) ((12 + (iz v4))).toNatClampNeg) = iz (m_state ((12 + v4)).toNat) := z_at (by first | with_reducible rfl | simp only [zl, iz_add, iz_sub, iz_mul, iz_neg]) (by first | with_reducible rfl | simp only [zl, iz_add, iz_sub, iz_mul, iz_neg]) hi_21 (by decide)
      try rw [e_22]
      intro y_24 hy_24
      obtain ⟨x3_23, hx3_23⟩ : ∃ z : Int, z = (v3 + (m_state ((12 + v4)).toNat)) := ⟨_, rfl⟩
      have hv := hv x3_23 hx3_23
      have ey_24 : y_24 = iz x3_23 := by rw [hy_24, hx3_23]; try exact (by first | with_reducible rfl | simp only [zl, iz_add, iz_sub, iz_mul, iz_neg])
      subst ey_24
      intro y_26 hy_26
      obtain ⟨x4_25, hx4_25⟩ : ∃ z : Int, z = v4 + 1 := ⟨_, rfl⟩
      have hv := hv x4_25 hx4_25
      have ey_26 : y_26 = iz x4_25 := by rw [hy_26, hx4_25]; try exact (by first | with_reducible rfl | simp only [zl, iz_add, iz_sub, iz_mul, iz_neg])
      subst ey_26
      exact ih _ _ x3_23 x4_25 (by first | with_reducible rfl | simp only [zl, iz_add, iz_sub, iz_mul, iz_neg]) (by first | with_reducible rfl | simp only [zl, iz_add, iz_sub, iz_mul, iz_neg]) hv

def iv_X5_safe (a1 : Int) (a2 : Int) (m_state : (Nat → Int)) (post : Int → (Nat → Int) → Prop) : Prop :=
  (iv_X5_isRoom a1 (fun (r_2 : Int) (u_1 : Unit) => ((sm r_2 ∧ sm 0) ∧ ((¬ r_2 = 0 → (iv_X5_in a2 0 1 (fun (r_10 : Int) (u_9 : Unit) => ((sm r_10 ∧ sm 0) ∧ ((¬ r_10 = 0 → ((0 ≤ (12 + a1) ∧ (12 + a1) < 69) ∧ (∃ n_28, iv_X5_safe_L36 (fun k3_27 => post k3_27 (uz m_state ((12 + a1)).toNat a2))  (uz m_state ((12 + a1)).toNat a2) n_28 0 0))) ∧ (r_10 = 0 → post (-2) m_state)))))) ∧ (r_2 = 0 → post (-1) m_state)))))

set_option maxHeartbeats 4000000 in
theorem lift_X5_safe {a1' : Int32} {a1 : Int} {a2' : Int32} {a2 : Int} {m_state' : (Nat → Int32)} {m_state : (Nat → Int)} (e_a1 : a1' = iz a1) (e_a2 : a2' = iz a2) (e_m_state : m_state' = az m_state) {post0 : Int32 → (Nat → Int32) → Prop} {post : Int → (Nat → Int) → Prop} (hv : iv_X5_safe a1 a2 m_state post) (hp : ∀ (r : Int) (u : (Nat → Int)) (x : Int32) (y : (Nat → Int32)), post r u → x = iz r → y = az u → post0 x y) : vc_X5_safe a1' a2' m_state' post0 := by
  subst e_a1
  subst e_a2
  subst e_m_state
  rw [iv_X5_safe] at hv
  rw [vc_X5_safe]
  refine lift_X5_isRoom (by first | with_reducible rfl | simp only [zl, iz_add, iz_sub, iz_mul, iz_neg]) hv (fun r_2 u_1 y_3 y_4 hv er_5 eu_6 => ?_)
  subst er_5; subst eu_6
  try dsimp only
  obtain ⟨hs_7, hv⟩ := hv
  have q_8 := z_eq (x := (iz r_2)) (a := r_2) (by first | with_reducible rfl | simp only [zl, iz_add, iz_sub, iz_mul, iz_neg]) (y := 0) (b := 0) (by first | with_reducible rfl | simp only [zl, iz_add, iz_sub, iz_mul, iz_neg]) hs_7.1 hs_7.2
  refine ⟨fun c9 => ?_, fun c9 => ?_⟩
  · have hv := hv.1 (fun z9 => c9 (q_8.mpr z9))
    refine lift_X5_in (by first | with_reducible rfl | simp only [zl, iz_add, iz_sub, iz_mul, iz_neg]) (by first | with_reducible rfl | simp only [zl, iz_add, iz_sub, iz_mul, iz_neg]) (by first | with_reducible rfl | simp only [zl, iz_add, iz_sub, iz_mul, iz_neg]) hv (fun r_10 u_9 y_11 y_12 hv er_13 eu_14 => ?_)
    subst er_13; subst eu_14
    try dsimp only
    obtain ⟨hs_15, hv⟩ := hv
    have q_16 := z_eq (x := (iz r_10)) (a := r_10) (by first | with_reducible rfl | simp only [zl, iz_add, iz_sub, iz_mul, iz_neg]) (y := 0) (b := 0) (by first | with_reducible rfl | simp only [zl, iz_add, iz_sub, iz_mul, iz_neg]) hs_15.1 hs_15.2
    refine ⟨fun c9 => ?_, fun c9 => ?_⟩
    · have hv := hv.1 (fun z9 => c9 (q_16.mpr z9))
      obtain ⟨hi_17, hv⟩ := hv
      refine ⟨z_in (by first | with_reducible rfl | simp only [zl, iz_add, iz_sub, iz_mul, iz_neg]) hi_17 (by decide), ?_⟩
      have e_18 : (upd (az m_state) ((12 + (iz a1))).toNatClampNeg (iz a2)) = az (uz m_state ((12 + a1)).toNat a2) := z_upd (by first | with_reducible rfl | simp only [zl, iz_add, iz_sub, iz_mul, iz_neg]) (by first | with_reducible rfl | simp only [zl, iz_add, iz_sub, iz_mul, iz_neg]) (by first | with_reducible rfl | simp only [zl, iz_add, iz_sub, iz_mul, iz_neg]) hi_17 (by decide)
      try rw [e_18]
      obtain ⟨n_28, hv⟩ := hv
      refine ⟨n_28, lift_X5_safe_L36 (by first | with_reducible rfl | simp only [zl, iz_add, iz_sub, iz_mul, iz_neg]) (fun y_29 k3_27 hv ey_30 => ?_)  n_28 _ _ 0 0 (by first | with_reducible rfl | simp only [zl, iz_add, iz_sub, iz_mul, iz_neg]) (by first | with_reducible rfl | simp only [zl, iz_add, iz_sub, iz_mul, iz_neg]) hv⟩
      subst ey_30
      exact hp _ _ _ _ hv (by first | with_reducible rfl | simp only [zl, iz_add, iz_sub, iz_mul, iz_neg]) (by first | with_reducible rfl | simp only [zl, iz_add, iz_sub, iz_mul, iz_neg])
    · have hv := hv.2 (q_16.mp c9)
      exact hp _ _ _ _ hv (by first | with_reducible rfl | simp only [zl, iz_add, iz_sub, iz_mul, iz_neg]) (by first | with_reducible rfl | simp only [zl, iz_add, iz_sub, iz_mul, iz_neg])
  · have hv := hv.2 (q_8.mp c9)
    exact hp _ _ _ _ hv (by first | with_reducible rfl | simp only [zl, iz_add, iz_sub, iz_mul, iz_neg]) (by first | with_reducible rfl | simp only [zl, iz_add, iz_sub, iz_mul, iz_neg])

def iv_X5_add (a1 : Int) (a2 : Int) (a3 : Int) (a4 : Int) (m_state : (Nat → Int)) (post : Int → (Nat → Int) → Prop) : Prop :=
  (iv_X5_many m_state (fun (r_2 : Int) (u_1 : Unit) => ((0 ≤ (18 + r_2) ∧ (18 + r_2) < 69) ∧ ((0 ≤ (28 + r_2) ∧ (28 + r_2) < 69) ∧ ((0 ≤ (38 + r_2) ∧ (38 + r_2) < 69) ∧ ((0 ≤ (48 + r_2) ∧ (48 + r_2) < 69) ∧ ((0 ≤ (58 + r_2) ∧ (58 + r_2) < 69) ∧ post r_2 (uz (uz (uz (uz (uz (uz m_state ((18 + r_2)).toNat a1) ((28 + r_2)).toNat a2) ((38 + r_2)).toNat a3) ((48 + r_2)).toNat a4) ((58 + r_2)).toNat 1000) 68 (((uz (uz (uz (uz (uz m_state ((18 + r_2)).toNat a1) ((28 + r_2)).toNat a2) ((38 + r_2)).toNat a3) ((48 + r_2)).toNat a4) ((58 + r_2)).toNat 1000) 68) + 1)))))))))

set_option maxHeartbeats 4000000 in
theorem lift_X5_add {a1' : Int32} {a1 : Int} {a2' : Int32} {a2 : Int} {a3' : Int32} {a3 : Int} {a4' : Int32} {a4 : Int} {m_state' : (Nat → Int32)} {m_state : (Nat → Int)} (e_a1 : a1' = iz a1) (e_a2 : a2' = iz a2) (e_a3 : a3' = iz a3) (e_a4 : a4' = iz a4) (e_m_state : m_state' = az m_state) {post0 : Int32 → (Nat → Int32) → Prop} {post : Int → (Nat → Int) → Prop} (hv : iv_X5_add a1 a2 a3 a4 m_state post) (hp : ∀ (r : Int) (u : (Nat → Int)) (x : Int32) (y : (Nat → Int32)), post r u → x = iz r → y = az u → post0 x y) : vc_X5_add a1' a2' a3' a4' m_state' post0 := by
  subst e_a1
  subst e_a2
  subst e_a3
  subst e_a4
  subst e_m_state
  rw [iv_X5_add] at hv
  rw [vc_X5_add]
  refine lift_X5_many (by first | with_reducible rfl | simp only [zl, iz_add, iz_sub, iz_mul, iz_neg]) hv (fun r_2 u_1 y_3 y_4 hv er_5 eu_6 => ?_)
  subst er_5; subst eu_6
  try dsimp only
  obtain ⟨hi_7, hv⟩ := hv
  refine ⟨z_in (by first | with_reducible rfl | simp only [zl, iz_add, iz_sub, iz_mul, iz_neg]) hi_7 (by decide), ?_⟩
  have e_8 : (upd (az m_state) ((18 + (iz r_2))).toNatClampNeg (iz a1)) = az (uz m_state ((18 + r_2)).toNat a1) := z_upd (by first | with_reducible rfl | simp only [zl, iz_add, iz_sub, iz_mul, iz_neg]) (by first | with_reducible rfl | simp only [zl, iz_add, iz_sub, iz_mul, iz_neg]) (by first | with_reducible rfl | simp only [zl, iz_add, iz_sub, iz_mul, iz_neg]) hi_7 (by decide)
  try rw [e_8]
  obtain ⟨hi_9, hv⟩ := hv
  refine ⟨z_in (by first | with_reducible rfl | simp only [zl, iz_add, iz_sub, iz_mul, iz_neg]) hi_9 (by decide), ?_⟩
  have e_10 : (upd (az (uz m_state ((18 + r_2)).toNat a1)) ((28 + (iz r_2))).toNatClampNeg (iz a2)) = az (uz (uz m_state ((18 + r_2)).toNat a1) ((28 + r_2)).toNat a2) := z_upd (by first | with_reducible rfl | simp only [zl, iz_add, iz_sub, iz_mul, iz_neg]) (by first | with_reducible rfl | simp only [zl, iz_add, iz_sub, iz_mul, iz_neg]) (by first | with_reducible rfl | simp only [zl, iz_add, iz_sub, iz_mul, iz_neg]) hi_9 (by decide)
  try rw [e_10]
  obtain ⟨hi_11, hv⟩ := hv
  refine ⟨z_in (by first | with_reducible rfl | simp only [zl, iz_add, iz_sub, iz_mul, iz_neg]) hi_11 (by decide), ?_⟩
  have e_12 : (upd (az (uz (uz m_state ((18 + r_2)).toNat a1) ((28 + r_2)).toNat a2)) ((38 + (iz r_2))).toNatClampNeg (iz a3)) = az (uz (uz (uz m_state ((18 + r_2)).toNat a1) ((28 + r_2)).toNat a2) ((38 + r_2)).toNat a3) := z_upd (by first | with_reducible rfl | simp only [zl, iz_add, iz_sub, iz_mul, iz_neg]) (by first | with_reducible rfl | simp only [zl, iz_add, iz_sub, iz_mul, iz_neg]) (by first | with_reducible rfl | simp only [zl, iz_add, iz_sub, iz_mul, iz_neg]) hi_11 (by decide)
  try rw [e_12]
  obtain ⟨hi_13, hv⟩ := hv
  refine ⟨z_in (by first | with_reducible rfl | simp only [zl, iz_add, iz_sub, iz_mul, iz_neg]) hi_13 (by decide), ?_⟩
  have e_14 : (upd (az (uz (uz (uz m_state ((18 + r_2)).toNat a1) ((28 + r_2)).toNat a2) ((38 + r_2)).toNat a3)) ((48 + (iz r_2))).toNatClampNeg (iz a4)) = az (uz (uz (uz (uz m_state ((18 + r_2)).toNat a1) ((28 + r_2)).toNat a2) ((38 + r_2)).toNat a3) ((48 + r_2)).toNat a4) := z_upd (by first | with_reducible rfl | simp only [zl, iz_add, iz_sub, iz_mul, iz_neg]) (by first | with_reducible rfl | simp only [zl, iz_add, iz_sub, iz_mul, iz_neg]) (by first | with_reducible rfl | simp only [zl, iz_add, iz_sub, iz_mul, iz_neg]) hi_13 (by decide)
  try rw [e_14]
  obtain ⟨hi_15, hv⟩ := hv
  refine ⟨z_in (by first | with_reducible rfl | simp only [zl, iz_add, iz_sub, iz_mul, iz_neg]) hi_15 (by decide), ?_⟩
  have e_16 : (upd (az (uz (uz (uz (uz m_state ((18 + r_2)).toNat a1) ((28 + r_2)).toNat a2) ((38 + r_2)).toNat a3) ((48 + r_2)).toNat a4)) ((58 + (iz r_2))).toNatClampNeg 1000) = az (uz (uz (uz (uz (uz m_state ((18 + r_2)).toNat a1) ((28 + r_2)).toNat a2) ((38 + r_2)).toNat a3) ((48 + r_2)).toNat a4) ((58 + r_2)).toNat 1000) := z_upd (by first | with_reducible rfl | simp only [zl, iz_add, iz_sub, iz_mul, iz_neg]) (by first | with_reducible rfl | simp only [zl, iz_add, iz_sub, iz_mul, iz_neg]) (by first | with_reducible rfl | simp only [zl, iz_add, iz_sub, iz_mul, iz_neg]) hi_15 (by decide)
  try rw [e_16]
  have e_17 : ((az (uz (uz (uz (uz (uz m_state ((18 + r_2)).toNat a1) ((28 + r_2)).toNat a2) ((38 + r_2)).toNat a3) ((48 + r_2)).toNat a4) ((58 + r_2)).toNat 1000)) 68) = iz ((uz (uz (uz (uz (uz m_state ((18 + r_2)).toNat a1) ((28 + r_2)).toNat a2) ((38 + r_2)).toNat a3) ((48 + r_2)).toNat a4) ((58 + r_2)).toNat 1000) 68) := z_at0 (by first | with_reducible rfl | simp only [zl, iz_add, iz_sub, iz_mul, iz_neg])
  try rw [e_17]
  have e_18 : (upd (az (uz (uz (uz (uz (uz m_state ((18 + r_2)).toNat a1) ((28 + r_2)).toNat a2) ((38 + r_2)).toNat a3) ((48 + r_2)).toNat a4) ((58 + r_2)).toNat 1000)) 68 ((iz ((uz (uz (uz (uz (uz m_state ((18 + r_2)).toNat a1) ((28 + r_2)).toNat a2) ((38 + r_2)).toNat a3) ((48 + r_2)).toNat a4) ((58 + r_2)).toNat 1000) 68)) + 1)) = az (uz (uz (uz (uz (uz (uz m_state ((18 + r_2)).toNat a1) ((28 + r_2)).toNat a2) ((38 + r_2)).toNat a3) ((48 + r_2)).toNat a4) ((58 + r_2)).toNat 1000) 68 (((uz (uz (uz (uz (uz m_state ((18 + r_2)).toNat a1) ((28 + r_2)).toNat a2) ((38 + r_2)).toNat a3) ((48 + r_2)).toNat a4) ((58 + r_2)).toNat 1000) 68) + 1)) := z_upd0 (by first | with_reducible rfl | simp only [zl, iz_add, iz_sub, iz_mul, iz_neg]) (by first | with_reducible rfl | simp only [zl, iz_add, iz_sub, iz_mul, iz_neg])
  try rw [e_18]
  exact hp _ _ _ _ hv (by first | with_reducible rfl | simp only [zl, iz_add, iz_sub, iz_mul, iz_neg]) (by first | with_reducible rfl | simp only [zl, iz_add, iz_sub, iz_mul, iz_neg])

def iv_X5_passage (a1 : Int) (a2 : Int) (a3 : Int) (a4 : Int) (m_state : (Nat → Int)) (post : Int → (Nat → Int) → Prop) : Prop :=
  (iv_X5_isRoom a1 (fun (r_2 : Int) (u_1 : Unit) => ((sm r_2 ∧ sm 0) ∧ ((r_2 = 0 → post (-1) m_state) ∧ (¬ r_2 = 0 → (iv_X5_isRoom a2 (fun (r_10 : Int) (u_9 : Unit) => ((sm r_10 ∧ sm 0) ∧ ((¬ r_10 = 0 → ((sm a1 ∧ sm a2) ∧ ((a1 = a2 → post (-2) m_state) ∧ (¬ a1 = a2 → (iv_X5_in a3 1 6 (fun (r_20 : Int) (u_19 : Unit) => ((sm r_20 ∧ sm 0) ∧ ((r_20 = 0 → post (-2) m_state) ∧ (¬ r_20 = 0 → (iv_X5_in a4 1 4 (fun (r_28 : Int) (u_27 : Unit) => ((sm r_28 ∧ sm 0) ∧ ((¬ r_28 = 0 → (iv_X5_many m_state (fun (r_36 : Int) (u_35 : Unit) => ((sm r_36 ∧ sm 10) ∧ ((¬ r_36 = 10 → (iv_X5_add a1 a2 a3 a4 m_state (fun (r_44 : Int) (u_43 : (Nat → Int)) => post r_44 u_43))) ∧ (r_36 = 10 → post (-4) m_state)))))) ∧ (r_28 = 0 → post (-2) m_state)))))))))))))) ∧ (r_10 = 0 → post (-1) m_state))))))))))

set_option maxHeartbeats 4000000 in
theorem lift_X5_passage {a1' : Int32} {a1 : Int} {a2' : Int32} {a2 : Int} {a3' : Int32} {a3 : Int} {a4' : Int32} {a4 : Int} {m_state' : (Nat → Int32)} {m_state : (Nat → Int)} (e_a1 : a1' = iz a1) (e_a2 : a2' = iz a2) (e_a3 : a3' = iz a3) (e_a4 : a4' = iz a4) (e_m_state : m_state' = az m_state) {post0 : Int32 → (Nat → Int32) → Prop} {post : Int → (Nat → Int) → Prop} (hv : iv_X5_passage a1 a2 a3 a4 m_state post) (hp : ∀ (r : Int) (u : (Nat → Int)) (x : Int32) (y : (Nat → Int32)), post r u → x = iz r → y = az u → post0 x y) : vc_X5_passage a1' a2' a3' a4' m_state' post0 := by
  subst e_a1
  subst e_a2
  subst e_a3
  subst e_a4
  subst e_m_state
  rw [iv_X5_passage] at hv
  rw [vc_X5_passage]
  refine lift_X5_isRoom (by first | with_reducible rfl | simp only [zl, iz_add, iz_sub, iz_mul, iz_neg]) hv (fun r_2 u_1 y_3 y_4 hv er_5 eu_6 => ?_)
  subst er_5; subst eu_6
  try dsimp only
  obtain ⟨hs_7, hv⟩ := hv
  have q_8 := z_eq (x := (iz r_2)) (a := r_2) (by first | with_reducible rfl | simp only [zl, iz_add, iz_sub, iz_mul, iz_neg]) (y := 0) (b := 0) (by first | with_reducible rfl | simp only [zl, iz_add, iz_sub, iz_mul, iz_neg]) hs_7.1 hs_7.2
  refine ⟨fun c9 => ?_, fun c9 => ?_⟩
  · have hv := hv.1 (q_8.mp c9)
    exact hp _ _ _ _ hv (by first | with_reducible rfl | simp only [zl, iz_add, iz_sub, iz_mul, iz_neg]) (by first | with_reducible rfl | simp only [zl, iz_add, iz_sub, iz_mul, iz_neg])
  · have hv := hv.2 (fun z9 => c9 (q_8.mpr z9))
    refine lift_X5_isRoom (by first | with_reducible rfl | simp only [zl, iz_add, iz_sub, iz_mul, iz_neg]) hv (fun r_10 u_9 y_11 y_12 hv er_13 eu_14 => ?_)
    subst er_13; subst eu_14
    try dsimp only
    obtain ⟨hs_15, hv⟩ := hv
    have q_16 := z_eq (x := (iz r_10)) (a := r_10) (by first | with_reducible rfl | simp only [zl, iz_add, iz_sub, iz_mul, iz_neg]) (y := 0) (b := 0) (by first | with_reducible rfl | simp only [zl, iz_add, iz_sub, iz_mul, iz_neg]) hs_15.1 hs_15.2
    refine ⟨fun c9 => ?_, fun c9 => ?_⟩
    · have hv := hv.1 (fun z9 => c9 (q_16.mpr z9))
      obtain ⟨hs_17, hv⟩ := hv
      have q_18 := z_eq (x := (iz a1)) (a := a1) (by first | with_reducible rfl | simp only [zl, iz_add, iz_sub, iz_mul, iz_neg]) (y := (iz a2)) (b := a2) (by first | with_reducible rfl | simp only [zl, iz_add, iz_sub, iz_mul, iz_neg]) hs_17.1 hs_17.2
      refine ⟨fun c9 => ?_, fun c9 => ?_⟩
      · have hv := hv.1 (q_18.mp c9)
        exact hp _ _ _ _ hv (by first | with_reducible rfl | simp only [zl, iz_add, iz_sub, iz_mul, iz_neg]) (by first | with_reducible rfl | simp only [zl, iz_add, iz_sub, iz_mul, iz_neg])
      · have hv := hv.2 (fun z9 => c9 (q_18.mpr z9))
        refine lift_X5_in (by first | with_reducible rfl | simp only [zl, iz_add, iz_sub, iz_mul, iz_neg]) (by first | with_reducible rfl | simp only [zl, iz_add, iz_sub, iz_mul, iz_neg]) (by first | with_reducible rfl | simp only [zl, iz_add, iz_sub, iz_mul, iz_neg]) hv (fun r_20 u_19 y_21 y_22 hv er_23 eu_24 => ?_)
        subst er_23; subst eu_24
        try dsimp only
        obtain ⟨hs_25, hv⟩ := hv
        have q_26 := z_eq (x := (iz r_20)) (a := r_20) (by first | with_reducible rfl | simp only [zl, iz_add, iz_sub, iz_mul, iz_neg]) (y := 0) (b := 0) (by first | with_reducible rfl | simp only [zl, iz_add, iz_sub, iz_mul, iz_neg]) hs_25.1 hs_25.2
        refine ⟨fun c9 => ?_, fun c9 => ?_⟩
        · have hv := hv.1 (q_26.mp c9)
          exact hp _ _ _ _ hv (by first | with_reducible rfl | simp only [zl, iz_add, iz_sub, iz_mul, iz_neg]) (by first | with_reducible rfl | simp only [zl, iz_add, iz_sub, iz_mul, iz_neg])
        · have hv := hv.2 (fun z9 => c9 (q_26.mpr z9))
          refine lift_X5_in (by first | with_reducible rfl | simp only [zl, iz_add, iz_sub, iz_mul, iz_neg]) (by first | with_reducible rfl | simp only [zl, iz_add, iz_sub, iz_mul, iz_neg]) (by first | with_reducible rfl | simp only [zl, iz_add, iz_sub, iz_mul, iz_neg]) hv (fun r_28 u_27 y_29 y_30 hv er_31 eu_32 => ?_)
          subst er_31; subst eu_32
          try dsimp only
          obtain ⟨hs_33, hv⟩ := hv
          have q_34 := z_eq (x := (iz r_28)) (a := r_28) (by first | with_reducible rfl | simp only [zl, iz_add, iz_sub, iz_mul, iz_neg]) (y := 0) (b := 0) (by first | with_reducible rfl | simp only [zl, iz_add, iz_sub, iz_mul, iz_neg]) hs_33.1 hs_33.2
          refine ⟨fun c9 => ?_, fun c9 => ?_⟩
          · have hv := hv.1 (fun z9 => c9 (q_34.mpr z9))
            refine lift_X5_many (by first | with_reducible rfl | simp only [zl, iz_add, iz_sub, iz_mul, iz_neg]) hv (fun r_36 u_35 y_37 y_38 hv er_39 eu_40 => ?_)
            subst er_39; subst eu_40
            try dsimp only
            obtain ⟨hs_41, hv⟩ := hv
            have q_42 := z_eq (x := (iz r_36)) (a := r_36) (by first | with_reducible rfl | simp only [zl, iz_add, iz_sub, iz_mul, iz_neg]) (y := 10) (b := 10) (by first | with_reducible rfl | simp only [zl, iz_add, iz_sub, iz_mul, iz_neg]) hs_41.1 hs_41.2
            refine ⟨fun c9 => ?_, fun c9 => ?_⟩
            · have hv := hv.1 (fun z9 => c9 (q_42.mpr z9))
              refine lift_X5_add (by first | with_reducible rfl | simp only [zl, iz_add, iz_sub, iz_mul, iz_neg]) (by first | with_reducible rfl | simp only [zl, iz_add, iz_sub, iz_mul, iz_neg]) (by first | with_reducible rfl | simp only [zl, iz_add, iz_sub, iz_mul, iz_neg]) (by first | with_reducible rfl | simp only [zl, iz_add, iz_sub, iz_mul, iz_neg]) (by first | with_reducible rfl | simp only [zl, iz_add, iz_sub, iz_mul, iz_neg]) hv (fun r_44 u_43 y_45 y_46 hv er_47 eu_48 => ?_)
              subst er_47; subst eu_48
              try dsimp only
              exact hp _ _ _ _ hv (by first | with_reducible rfl | simp only [zl, iz_add, iz_sub, iz_mul, iz_neg]) (by first | with_reducible rfl | simp only [zl, iz_add, iz_sub, iz_mul, iz_neg])
            · have hv := hv.2 (q_42.mp c9)
              exact hp _ _ _ _ hv (by first | with_reducible rfl | simp only [zl, iz_add, iz_sub, iz_mul, iz_neg]) (by first | with_reducible rfl | simp only [zl, iz_add, iz_sub, iz_mul, iz_neg])
          · have hv := hv.2 (q_34.mp c9)
            exact hp _ _ _ _ hv (by first | with_reducible rfl | simp only [zl, iz_add, iz_sub, iz_mul, iz_neg]) (by first | with_reducible rfl | simp only [zl, iz_add, iz_sub, iz_mul, iz_neg])
    · have hv := hv.2 (q_16.mp c9)
      exact hp _ _ _ _ hv (by first | with_reducible rfl | simp only [zl, iz_add, iz_sub, iz_mul, iz_neg]) (by first | with_reducible rfl | simp only [zl, iz_add, iz_sub, iz_mul, iz_neg])

def iv_X5_widen (a1 : Int) (a2 : Int) (m_state : (Nat → Int)) (post : Int → (Nat → Int) → Prop) : Prop :=
  (iv_X5_isPassage a1 m_state (fun (r_2 : Int) (u_1 : Unit) => ((sm r_2 ∧ sm 0) ∧ ((¬ r_2 = 0 → (iv_X5_in a2 1 6 (fun (r_10 : Int) (u_9 : Unit) => ((sm r_10 ∧ sm 0) ∧ ((¬ r_10 = 0 → ((0 ≤ (38 + a1) ∧ (38 + a1) < 69) ∧ (∀ x3_19 : Int, x3_19 = (m_state ((38 + a1)).toNat) → ((0 ≤ (38 + a1) ∧ (38 + a1) < 69) ∧ post x3_19 (uz m_state ((38 + a1)).toNat a2))))) ∧ (r_10 = 0 → post (-2) m_state)))))) ∧ (r_2 = 0 → post (-1) m_state)))))

set_option maxHeartbeats 4000000 in
theorem lift_X5_widen {a1' : Int32} {a1 : Int} {a2' : Int32} {a2 : Int} {m_state' : (Nat → Int32)} {m_state : (Nat → Int)} (e_a1 : a1' = iz a1) (e_a2 : a2' = iz a2) (e_m_state : m_state' = az m_state) {post0 : Int32 → (Nat → Int32) → Prop} {post : Int → (Nat → Int) → Prop} (hv : iv_X5_widen a1 a2 m_state post) (hp : ∀ (r : Int) (u : (Nat → Int)) (x : Int32) (y : (Nat → Int32)), post r u → x = iz r → y = az u → post0 x y) : vc_X5_widen a1' a2' m_state' post0 := by
  subst e_a1
  subst e_a2
  subst e_m_state
  rw [iv_X5_widen] at hv
  rw [vc_X5_widen]
  refine lift_X5_isPassage (by first | with_reducible rfl | simp only [zl, iz_add, iz_sub, iz_mul, iz_neg]) (by first | with_reducible rfl | simp only [zl, iz_add, iz_sub, iz_mul, iz_neg]) hv (fun r_2 u_1 y_3 y_4 hv er_5 eu_6 => ?_)
  subst er_5; subst eu_6
  try dsimp only
  obtain ⟨hs_7, hv⟩ := hv
  have q_8 := z_eq (x := (iz r_2)) (a := r_2) (by first | with_reducible rfl | simp only [zl, iz_add, iz_sub, iz_mul, iz_neg]) (y := 0) (b := 0) (by first | with_reducible rfl | simp only [zl, iz_add, iz_sub, iz_mul, iz_neg]) hs_7.1 hs_7.2
  refine ⟨fun c9 => ?_, fun c9 => ?_⟩
  · have hv := hv.1 (fun z9 => c9 (q_8.mpr z9))
    refine lift_X5_in (by first | with_reducible rfl | simp only [zl, iz_add, iz_sub, iz_mul, iz_neg]) (by first | with_reducible rfl | simp only [zl, iz_add, iz_sub, iz_mul, iz_neg]) (by first | with_reducible rfl | simp only [zl, iz_add, iz_sub, iz_mul, iz_neg]) hv (fun r_10 u_9 y_11 y_12 hv er_13 eu_14 => ?_)
    subst er_13; subst eu_14
    try dsimp only
    obtain ⟨hs_15, hv⟩ := hv
    have q_16 := z_eq (x := (iz r_10)) (a := r_10) (by first | with_reducible rfl | simp only [zl, iz_add, iz_sub, iz_mul, iz_neg]) (y := 0) (b := 0) (by first | with_reducible rfl | simp only [zl, iz_add, iz_sub, iz_mul, iz_neg]) hs_15.1 hs_15.2
    refine ⟨fun c9 => ?_, fun c9 => ?_⟩
    · have hv := hv.1 (fun z9 => c9 (q_16.mpr z9))
      obtain ⟨hi_17, hv⟩ := hv
      refine ⟨z_in (by first | with_reducible rfl | simp only [zl, iz_add, iz_sub, iz_mul, iz_neg]) hi_17 (by decide), ?_⟩
      have e_18 : ((az m_state) ((38 + (iz a1))).toNatClampNeg) = iz (m_state ((38 + a1)).toNat) := z_at (by first | with_reducible rfl | simp only [zl, iz_add, iz_sub, iz_mul, iz_neg]) (by first | with_reducible rfl | simp only [zl, iz_add, iz_sub, iz_mul, iz_neg]) hi_17 (by decide)
      try rw [e_18]
      intro y_20 hy_20
      obtain ⟨x3_19, hx3_19⟩ : ∃ z : Int, z = (m_state ((38 + a1)).toNat) := ⟨_, rfl⟩
      have hv := hv x3_19 hx3_19
      have ey_20 : y_20 = iz x3_19 := by rw [hy_20, hx3_19]; try exact (by first | with_reducible rfl | simp only [zl, iz_add, iz_sub, iz_mul, iz_neg])
      subst ey_20
      obtain ⟨hi_21, hv⟩ := hv
      refine ⟨z_in (by first | with_reducible rfl | simp only [zl, iz_add, iz_sub, iz_mul, iz_neg]) hi_21 (by decide), ?_⟩
      have e_22 : (upd (az m_state) ((38 + (iz a1))).toNatClampNeg (iz a2)) = az (uz m_state ((38 + a1)).toNat a2) := z_upd (by first | with_reducible rfl | simp only [zl, iz_add, iz_sub, iz_mul, iz_neg]) (by first | with_reducible rfl | simp only [zl, iz_add, iz_sub, iz_mul, iz_neg]) (by first | with_reducible rfl | simp only [zl, iz_add, iz_sub, iz_mul, iz_neg]) hi_21 (by decide)
      try rw [e_22]
      exact hp _ _ _ _ hv (by first | with_reducible rfl | simp only [zl, iz_add, iz_sub, iz_mul, iz_neg]) (by first | with_reducible rfl | simp only [zl, iz_add, iz_sub, iz_mul, iz_neg])
    · have hv := hv.2 (q_16.mp c9)
      exact hp _ _ _ _ hv (by first | with_reducible rfl | simp only [zl, iz_add, iz_sub, iz_mul, iz_neg]) (by first | with_reducible rfl | simp only [zl, iz_add, iz_sub, iz_mul, iz_neg])
  · have hv := hv.2 (q_8.mp c9)
    exact hp _ _ _ _ hv (by first | with_reducible rfl | simp only [zl, iz_add, iz_sub, iz_mul, iz_neg]) (by first | with_reducible rfl | simp only [zl, iz_add, iz_sub, iz_mul, iz_neg])

def iv_X5_shutFrom (a1 : Int) (m_state : (Nat → Int)) (post : Int → Unit → Prop) : Prop :=
  ((0 ≤ (58 + a1) ∧ (58 + a1) < 69) ∧ ((sm (m_state ((58 + a1)).toNat) ∧ sm 1000) ∧ ((¬ (m_state ((58 + a1)).toNat) = 1000 → ((0 ≤ (58 + a1) ∧ (58 + a1) < 69) ∧ post (m_state ((58 + a1)).toNat) ())) ∧ ((m_state ((58 + a1)).toNat) = 1000 → post (-6) ()))))

set_option maxHeartbeats 4000000 in
theorem lift_X5_shutFrom {a1' : Int32} {a1 : Int} {m_state' : (Nat → Int32)} {m_state : (Nat → Int)} (e_a1 : a1' = iz a1) (e_m_state : m_state' = az m_state) {post0 : Int32 → Unit → Prop} {post : Int → Unit → Prop} (hv : iv_X5_shutFrom a1 m_state post) (hp : ∀ (r : Int) (u : Unit) (x : Int32) (y : Unit), post r u → x = iz r → y = () → post0 x y) : vc_X5_shutFrom a1' m_state' post0 := by
  subst e_a1
  subst e_m_state
  rw [iv_X5_shutFrom] at hv
  rw [vc_X5_shutFrom]
  obtain ⟨hi_1, hv⟩ := hv
  refine ⟨z_in (by first | with_reducible rfl | simp only [zl, iz_add, iz_sub, iz_mul, iz_neg]) hi_1 (by decide), ?_⟩
  have e_2 : ((az m_state) ((58 + (iz a1))).toNatClampNeg) = iz (m_state ((58 + a1)).toNat) := z_at (by first | with_reducible rfl | simp only [zl, iz_add, iz_sub, iz_mul, iz_neg]) (by first | with_reducible rfl | simp only [zl, iz_add, iz_sub, iz_mul, iz_neg]) hi_1 (by decide)
  try rw [e_2]
  obtain ⟨hs_3, hv⟩ := hv
  have q_4 := z_eq (x := (iz (m_state ((58 + a1)).toNat))) (a := (m_state ((58 + a1)).toNat)) (by first | with_reducible rfl | simp only [zl, iz_add, iz_sub, iz_mul, iz_neg]) (y := 1000) (b := 1000) (by first | with_reducible rfl | simp only [zl, iz_add, iz_sub, iz_mul, iz_neg]) hs_3.1 hs_3.2
  refine ⟨fun c9 => ?_, fun c9 => ?_⟩
  · have hv := hv.1 (fun z9 => c9 (q_4.mpr z9))
    obtain ⟨hi_5, hv⟩ := hv
    refine ⟨z_in (by first | with_reducible rfl | simp only [zl, iz_add, iz_sub, iz_mul, iz_neg]) hi_5 (by decide), ?_⟩
    have e_6 : ((az m_state) ((58 + (iz a1))).toNatClampNeg) = iz (m_state ((58 + a1)).toNat) := z_at (by first | with_reducible rfl | simp only [zl, iz_add, iz_sub, iz_mul, iz_neg]) (by first | with_reducible rfl | simp only [zl, iz_add, iz_sub, iz_mul, iz_neg]) hi_5 (by decide)
    try rw [e_6]
    exact hp _ _ _ _ hv (by first | with_reducible rfl | simp only [zl, iz_add, iz_sub, iz_mul, iz_neg]) (by first | with_reducible rfl | simp only [zl, iz_add, iz_sub, iz_mul, iz_neg])
  · have hv := hv.2 (q_4.mp c9)
    exact hp _ _ _ _ hv (by first | with_reducible rfl | simp only [zl, iz_add, iz_sub, iz_mul, iz_neg]) (by first | with_reducible rfl | simp only [zl, iz_add, iz_sub, iz_mul, iz_neg])

def iv_X5_shut (a1 : Int) (a2 : Int) (m_state : (Nat → Int)) (post : Int → (Nat → Int) → Prop) : Prop :=
  (iv_X5_isPassage a1 m_state (fun (r_2 : Int) (u_1 : Unit) => ((sm r_2 ∧ sm 0) ∧ ((¬ r_2 = 0 → (iv_X5_in a2 (-1) 60 (fun (r_10 : Int) (u_9 : Unit) => ((sm r_10 ∧ sm 0) ∧ ((¬ r_10 = 0 → (iv_X5_shutFrom a1 m_state (fun (r_18 : Int) (u_17 : Unit) => ((sm 0 ∧ sm a2) ∧ ((0 ≤ a2 → ((0 ≤ (58 + a1) ∧ (58 + a1) < 69) ∧ post r_18 (uz m_state ((58 + a1)).toNat a2))) ∧ (¬ 0 ≤ a2 → ((0 ≤ (58 + a1) ∧ (58 + a1) < 69) ∧ post r_18 (uz m_state ((58 + a1)).toNat 1000)))))))) ∧ (r_10 = 0 → post (-2) m_state)))))) ∧ (r_2 = 0 → post (-1) m_state)))))

set_option maxHeartbeats 4000000 in
theorem lift_X5_shut {a1' : Int32} {a1 : Int} {a2' : Int32} {a2 : Int} {m_state' : (Nat → Int32)} {m_state : (Nat → Int)} (e_a1 : a1' = iz a1) (e_a2 : a2' = iz a2) (e_m_state : m_state' = az m_state) {post0 : Int32 → (Nat → Int32) → Prop} {post : Int → (Nat → Int) → Prop} (hv : iv_X5_shut a1 a2 m_state post) (hp : ∀ (r : Int) (u : (Nat → Int)) (x : Int32) (y : (Nat → Int32)), post r u → x = iz r → y = az u → post0 x y) : vc_X5_shut a1' a2' m_state' post0 := by
  subst e_a1
  subst e_a2
  subst e_m_state
  rw [iv_X5_shut] at hv
  rw [vc_X5_shut]
  refine lift_X5_isPassage (by first | with_reducible rfl | simp only [zl, iz_add, iz_sub, iz_mul, iz_neg]) (by first | with_reducible rfl | simp only [zl, iz_add, iz_sub, iz_mul, iz_neg]) hv (fun r_2 u_1 y_3 y_4 hv er_5 eu_6 => ?_)
  subst er_5; subst eu_6
  try dsimp only
  obtain ⟨hs_7, hv⟩ := hv
  have q_8 := z_eq (x := (iz r_2)) (a := r_2) (by first | with_reducible rfl | simp only [zl, iz_add, iz_sub, iz_mul, iz_neg]) (y := 0) (b := 0) (by first | with_reducible rfl | simp only [zl, iz_add, iz_sub, iz_mul, iz_neg]) hs_7.1 hs_7.2
  refine ⟨fun c9 => ?_, fun c9 => ?_⟩
  · have hv := hv.1 (fun z9 => c9 (q_8.mpr z9))
    refine lift_X5_in (by first | with_reducible rfl | simp only [zl, iz_add, iz_sub, iz_mul, iz_neg]) (by first | with_reducible rfl | simp only [zl, iz_add, iz_sub, iz_mul, iz_neg]) (by first | with_reducible rfl | simp only [zl, iz_add, iz_sub, iz_mul, iz_neg]) hv (fun r_10 u_9 y_11 y_12 hv er_13 eu_14 => ?_)
    subst er_13; subst eu_14
    try dsimp only
    obtain ⟨hs_15, hv⟩ := hv
    have q_16 := z_eq (x := (iz r_10)) (a := r_10) (by first | with_reducible rfl | simp only [zl, iz_add, iz_sub, iz_mul, iz_neg]) (y := 0) (b := 0) (by first | with_reducible rfl | simp only [zl, iz_add, iz_sub, iz_mul, iz_neg]) hs_15.1 hs_15.2
    refine ⟨fun c9 => ?_, fun c9 => ?_⟩
    · have hv := hv.1 (fun z9 => c9 (q_16.mpr z9))
      refine lift_X5_shutFrom (by first | with_reducible rfl | simp only [zl, iz_add, iz_sub, iz_mul, iz_neg]) (by first | with_reducible rfl | simp only [zl, iz_add, iz_sub, iz_mul, iz_neg]) hv (fun r_18 u_17 y_19 y_20 hv er_21 eu_22 => ?_)
      subst er_21; subst eu_22
      try dsimp only
      obtain ⟨hs_23, hv⟩ := hv
      have q_24 := z_le (x := 0) (a := 0) (by first | with_reducible rfl | simp only [zl, iz_add, iz_sub, iz_mul, iz_neg]) (y := (iz a2)) (b := a2) (by first | with_reducible rfl | simp only [zl, iz_add, iz_sub, iz_mul, iz_neg]) hs_23.1 hs_23.2
      refine ⟨fun c9 => ?_, fun c9 => ?_⟩
      · have hv := hv.1 (q_24.mp c9)
        obtain ⟨hi_25, hv⟩ := hv
        refine ⟨z_in (by first | with_reducible rfl | simp only [zl, iz_add, iz_sub, iz_mul, iz_neg]) hi_25 (by decide), ?_⟩
        have e_26 : (upd (az m_state) ((58 + (iz a1))).toNatClampNeg (iz a2)) = az (uz m_state ((58 + a1)).toNat a2) := z_upd (by first | with_reducible rfl | simp only [zl, iz_add, iz_sub, iz_mul, iz_neg]) (by first | with_reducible rfl | simp only [zl, iz_add, iz_sub, iz_mul, iz_neg]) (by first | with_reducible rfl | simp only [zl, iz_add, iz_sub, iz_mul, iz_neg]) hi_25 (by decide)
        try rw [e_26]
        exact hp _ _ _ _ hv (by first | with_reducible rfl | simp only [zl, iz_add, iz_sub, iz_mul, iz_neg]) (by first | with_reducible rfl | simp only [zl, iz_add, iz_sub, iz_mul, iz_neg])
      · have hv := hv.2 (fun z9 => c9 (q_24.mpr z9))
        obtain ⟨hi_27, hv⟩ := hv
        refine ⟨z_in (by first | with_reducible rfl | simp only [zl, iz_add, iz_sub, iz_mul, iz_neg]) hi_27 (by decide), ?_⟩
        have e_28 : (upd (az m_state) ((58 + (iz a1))).toNatClampNeg 1000) = az (uz m_state ((58 + a1)).toNat 1000) := z_upd (by first | with_reducible rfl | simp only [zl, iz_add, iz_sub, iz_mul, iz_neg]) (by first | with_reducible rfl | simp only [zl, iz_add, iz_sub, iz_mul, iz_neg]) (by first | with_reducible rfl | simp only [zl, iz_add, iz_sub, iz_mul, iz_neg]) hi_27 (by decide)
        try rw [e_28]
        exact hp _ _ _ _ hv (by first | with_reducible rfl | simp only [zl, iz_add, iz_sub, iz_mul, iz_neg]) (by first | with_reducible rfl | simp only [zl, iz_add, iz_sub, iz_mul, iz_neg])
    · have hv := hv.2 (q_16.mp c9)
      exact hp _ _ _ _ hv (by first | with_reducible rfl | simp only [zl, iz_add, iz_sub, iz_mul, iz_neg]) (by first | with_reducible rfl | simp only [zl, iz_add, iz_sub, iz_mul, iz_neg])
  · have hv := hv.2 (q_8.mp c9)
    exact hp _ _ _ _ hv (by first | with_reducible rfl | simp only [zl, iz_add, iz_sub, iz_mul, iz_neg]) (by first | with_reducible rfl | simp only [zl, iz_add, iz_sub, iz_mul, iz_neg])

def iv_X5_say (a1 : Int) (m_pad : (Nat → Int)) (m_said : Int) (post : Int → ((Nat → Int) × Int) → Prop) : Prop :=
  (iv_X5_in a1 33 126 (fun (r_2 : Int) (u_1 : Unit) => ((sm r_2 ∧ sm 0) ∧ ((¬ r_2 = 0 → ((sm m_said ∧ sm 40) ∧ ((¬ m_said = 40 → ((0 ≤ m_said ∧ m_said < 40) ∧ post (m_said + 1) ((uz m_pad m_said.toNat a1), (m_said + 1)))) ∧ (m_said = 40 → post (-4) (m_pad, m_said))))) ∧ (r_2 = 0 → post (-2) (m_pad, m_said))))))

set_option maxHeartbeats 4000000 in
theorem lift_X5_say {a1' : Int32} {a1 : Int} {m_pad' : (Nat → Int32)} {m_pad : (Nat → Int)} {m_said' : Int32} {m_said : Int} (e_a1 : a1' = iz a1) (e_m_pad : m_pad' = az m_pad) (e_m_said : m_said' = iz m_said) {post0 : Int32 → ((Nat → Int32) × Int32) → Prop} {post : Int → ((Nat → Int) × Int) → Prop} (hv : iv_X5_say a1 m_pad m_said post) (hp : ∀ (r : Int) (u : (Nat → Int) × Int) (x : Int32) (y : (Nat → Int32) × Int32), post r u → x = iz r → y = (az u.1, iz u.2) → post0 x y) : vc_X5_say a1' m_pad' m_said' post0 := by
  subst e_a1
  subst e_m_pad
  subst e_m_said
  rw [iv_X5_say] at hv
  rw [vc_X5_say]
  refine lift_X5_in (by first | with_reducible rfl | simp only [zl, iz_add, iz_sub, iz_mul, iz_neg]) (by first | with_reducible rfl | simp only [zl, iz_add, iz_sub, iz_mul, iz_neg]) (by first | with_reducible rfl | simp only [zl, iz_add, iz_sub, iz_mul, iz_neg]) hv (fun r_2 u_1 y_3 y_4 hv er_5 eu_6 => ?_)
  subst er_5; subst eu_6
  try dsimp only
  obtain ⟨hs_7, hv⟩ := hv
  have q_8 := z_eq (x := (iz r_2)) (a := r_2) (by first | with_reducible rfl | simp only [zl, iz_add, iz_sub, iz_mul, iz_neg]) (y := 0) (b := 0) (by first | with_reducible rfl | simp only [zl, iz_add, iz_sub, iz_mul, iz_neg]) hs_7.1 hs_7.2
  refine ⟨fun c9 => ?_, fun c9 => ?_⟩
  · have hv := hv.1 (fun z9 => c9 (q_8.mpr z9))
    obtain ⟨hs_9, hv⟩ := hv
    have q_10 := z_eq (x := (iz m_said)) (a := m_said) (by first | with_reducible rfl | simp only [zl, iz_add, iz_sub, iz_mul, iz_neg]) (y := 40) (b := 40) (by first | with_reducible rfl | simp only [zl, iz_add, iz_sub, iz_mul, iz_neg]) hs_9.1 hs_9.2
    refine ⟨fun c9 => ?_, fun c9 => ?_⟩
    · have hv := hv.1 (fun z9 => c9 (q_10.mpr z9))
      obtain ⟨hi_11, hv⟩ := hv
      refine ⟨z_in (by first | with_reducible rfl | simp only [zl, iz_add, iz_sub, iz_mul, iz_neg]) hi_11 (by decide), ?_⟩
      have e_12 : (upd (az m_pad) ((iz m_said)).toNatClampNeg (iz a1)) = az (uz m_pad m_said.toNat a1) := z_upd (by first | with_reducible rfl | simp only [zl, iz_add, iz_sub, iz_mul, iz_neg]) (by first | with_reducible rfl | simp only [zl, iz_add, iz_sub, iz_mul, iz_neg]) (by first | with_reducible rfl | simp only [zl, iz_add, iz_sub, iz_mul, iz_neg]) hi_11 (by decide)
      try rw [e_12]
      exact hp _ _ _ _ hv (by first | with_reducible rfl | simp only [zl, iz_add, iz_sub, iz_mul, iz_neg]) (by first | with_reducible rfl | simp only [zl, iz_add, iz_sub, iz_mul, iz_neg])
    · have hv := hv.2 (q_10.mp c9)
      exact hp _ _ _ _ hv (by first | with_reducible rfl | simp only [zl, iz_add, iz_sub, iz_mul, iz_neg]) (by first | with_reducible rfl | simp only [zl, iz_add, iz_sub, iz_mul, iz_neg])
  · have hv := hv.2 (q_8.mp c9)
    exact hp _ _ _ _ hv (by first | with_reducible rfl | simp only [zl, iz_add, iz_sub, iz_mul, iz_neg]) (by first | with_reducible rfl | simp only [zl, iz_add, iz_sub, iz_mul, iz_neg])

def iv_X5_wipe (m_said : Int) (post : Int → Int → Prop) : Prop :=
  post m_said 0

set_option maxHeartbeats 4000000 in
theorem lift_X5_wipe {m_said' : Int32} {m_said : Int} (e_m_said : m_said' = iz m_said) {post0 : Int32 → Int32 → Prop} {post : Int → Int → Prop} (hv : iv_X5_wipe m_said post) (hp : ∀ (r : Int) (u : Int) (x : Int32) (y : Int32), post r u → x = iz r → y = iz u → post0 x y) : vc_X5_wipe m_said' post0 := by
  subst e_m_said
  rw [iv_X5_wipe] at hv
  rw [vc_X5_wipe]
  exact hp _ _ _ _ hv (by first | with_reducible rfl | simp only [zl, iz_add, iz_sub, iz_mul, iz_neg]) (by first | with_reducible rfl | simp only [zl, iz_add, iz_sub, iz_mul, iz_neg])

def iv_X5_canStand (a1 : Int) (m_pad : (Nat → Int)) (post : Int → Unit → Prop) : Prop :=
  ((zn a1) ∧ (∀ sw_3 : Int, sw_3 = (a1 - a1 / 4 * 4) → ((sm sw_3) ∧ ((sw_3 = 0 → ((0 ≤ a1 ∧ a1 < 40) ∧ (iv_X5_in (m_pad a1.toNat) 97 102 (fun (r_9 : Int) (u_8 : Unit) => ((r_9 = 0 ∨ r_9 = 1) ∧ post r_9 ()))))) ∧ (sw_3 = 1 → ((0 ≤ a1 ∧ a1 < 40) ∧ (iv_X5_in (m_pad a1.toNat) 97 102 (fun (r_17 : Int) (u_16 : Unit) => ((sm r_17 ∧ sm 0) ∧ ((r_17 = 0 → post 0 ()) ∧ (¬ r_17 = 0 → ((0 ≤ a1 ∧ a1 < 40) ∧ ((0 ≤ (a1 - 1) ∧ (a1 - 1) < 40) ∧ ((sm (m_pad a1.toNat) ∧ sm (m_pad ((a1 - 1)).toNat)) ∧ (((m_pad a1.toNat) = (m_pad ((a1 - 1)).toNat) → post 0 ()) ∧ (¬ (m_pad a1.toNat) = (m_pad ((a1 - 1)).toNat) → post 1 ())))))))))))) ∧ (sw_3 = 2 → ((0 ≤ a1 ∧ a1 < 40) ∧ (iv_X5_in (m_pad a1.toNat) 49 54 (fun (r_33 : Int) (u_32 : Unit) => ((r_33 = 0 ∨ r_33 = 1) ∧ post r_33 ()))))) ∧ (¬ sw_3 = 0 ∧ ¬ sw_3 = 1 ∧ ¬ sw_3 = 2 → ((0 ≤ a1 ∧ a1 < 40) ∧ (iv_X5_in (m_pad a1.toNat) 49 52 (fun (r_41 : Int) (u_40 : Unit) => ((r_41 = 0 ∨ r_41 = 1) ∧ post r_41 ())))))))))

set_option maxHeartbeats 4000000 in
theorem lift_X5_canStand {a1' : Int32} {a1 : Int} {m_pad' : (Nat → Int32)} {m_pad : (Nat → Int)} (e_a1 : a1' = iz a1) (e_m_pad : m_pad' = az m_pad) {post0 : Int32 → Unit → Prop} {post : Int → Unit → Prop} (hv : iv_X5_canStand a1 m_pad post) (hp : ∀ (r : Int) (u : Unit) (x : Int32) (y : Unit), post r u → x = iz r → y = () → post0 x y) : vc_X5_canStand a1' m_pad' post0 := by
  subst e_a1
  subst e_m_pad
  rw [iv_X5_canStand] at hv
  rw [vc_X5_canStand]
  obtain ⟨hc_1, hv⟩ := hv
  have e_2 : ((iz a1) - (iz a1) / 4 * 4) = iz (a1 - a1 / 4 * 4) := z_rem (by first | with_reducible rfl | simp only [zl, iz_add, iz_sub, iz_mul, iz_neg]) hc_1 (by decide) (by decide)
  try rw [e_2]
  intro y_4 hy_4
  obtain ⟨sw_3, hsw_3⟩ : ∃ z : Int, z = (a1 - a1 / 4 * 4) := ⟨_, rfl⟩
  have hv := hv sw_3 hsw_3
  have ey_4 : y_4 = iz sw_3 := by rw [hy_4, hsw_3]; try exact (by first | with_reducible rfl | simp only [zl, iz_add, iz_sub, iz_mul, iz_neg])
  subst ey_4
  obtain ⟨hc_5, hv⟩ := hv
  refine ⟨fun c9 => ?_, fun c9 => ?_, fun c9 => ?_, fun c9 => ?_⟩
  · have hv := hv.1 ((z_eq (x := (iz sw_3)) (y := 0) (a := sw_3) (b := 0) rfl rfl hc_5 (by unfold sm; omega)).mp c9)
    obtain ⟨hi_6, hv⟩ := hv
    refine ⟨z_in (by first | with_reducible rfl | simp only [zl, iz_add, iz_sub, iz_mul, iz_neg]) hi_6 (by decide), ?_⟩
    have e_7 : ((az m_pad) ((iz a1)).toNatClampNeg) = iz (m_pad a1.toNat) := z_at (by first | with_reducible rfl | simp only [zl, iz_add, iz_sub, iz_mul, iz_neg]) (by first | with_reducible rfl | simp only [zl, iz_add, iz_sub, iz_mul, iz_neg]) hi_6 (by decide)
    try rw [e_7]
    refine lift_X5_in (by first | with_reducible rfl | simp only [zl, iz_add, iz_sub, iz_mul, iz_neg]) (by first | with_reducible rfl | simp only [zl, iz_add, iz_sub, iz_mul, iz_neg]) (by first | with_reducible rfl | simp only [zl, iz_add, iz_sub, iz_mul, iz_neg]) hv (fun r_9 u_8 y_10 y_11 hv er_12 eu_13 => ?_)
    subst er_12; subst eu_13
    try dsimp only
    refine ⟨z_nar (by first | with_reducible rfl | simp only [zl, iz_add, iz_sub, iz_mul, iz_neg]) hv.1, hp _ _ _ _ hv.2 (by first | with_reducible rfl | simp only [zl, iz_add, iz_sub, iz_mul, iz_neg]) (by first | with_reducible rfl | simp only [zl, iz_add, iz_sub, iz_mul, iz_neg])⟩
  · have hv := hv.2.1 ((z_eq (x := (iz sw_3)) (y := 1) (a := sw_3) (b := 1) rfl rfl hc_5 (by unfold sm; omega)).mp c9)
    obtain ⟨hi_14, hv⟩ := hv
    refine ⟨z_in (by first | with_reducible rfl | simp only [zl, iz_add, iz_sub, iz_mul, iz_neg]) hi_14 (by decide), ?_⟩
    have e_15 : ((az m_pad) ((iz a1)).toNatClampNeg) = iz (m_pad a1.toNat) := z_at (by first | with_reducible rfl | simp only [zl, iz_add, iz_sub, iz_mul, iz_neg]) (by first | with_reducible rfl | simp only [zl, iz_add, iz_sub, iz_mul, iz_neg]) hi_14 (by decide)
    try rw [e_15]
    refine lift_X5_in (by first | with_reducible rfl | simp only [zl, iz_add, iz_sub, iz_mul, iz_neg]) (by first | with_reducible rfl | simp only [zl, iz_add, iz_sub, iz_mul, iz_neg]) (by first | with_reducible rfl | simp only [zl, iz_add, iz_sub, iz_mul, iz_neg]) hv (fun r_17 u_16 y_18 y_19 hv er_20 eu_21 => ?_)
    subst er_20; subst eu_21
    try dsimp only
    obtain ⟨hs_22, hv⟩ := hv
    have q_23 := z_eq (x := (iz r_17)) (a := r_17) (by first | with_reducible rfl | simp only [zl, iz_add, iz_sub, iz_mul, iz_neg]) (y := 0) (b := 0) (by first | with_reducible rfl | simp only [zl, iz_add, iz_sub, iz_mul, iz_neg]) hs_22.1 hs_22.2
    refine ⟨fun c9 => ?_, fun c9 => ?_⟩
    · have hv := hv.1 (q_23.mp c9)
      exact hp _ _ _ _ hv (by first | with_reducible rfl | simp only [zl, iz_add, iz_sub, iz_mul, iz_neg]) (by first | with_reducible rfl | simp only [zl, iz_add, iz_sub, iz_mul, iz_neg])
    · have hv := hv.2 (fun z9 => c9 (q_23.mpr z9))
      obtain ⟨hi_24, hv⟩ := hv
      refine ⟨z_in (by first | with_reducible rfl | simp only [zl, iz_add, iz_sub, iz_mul, iz_neg]) hi_24 (by decide), ?_⟩
      have e_25 : ((az m_pad) ((iz a1)).toNatClampNeg) = iz (m_pad a1.toNat) := z_at (by first | with_reducible rfl | simp only [zl, iz_add, iz_sub, iz_mul, iz_neg]) (by first | with_reducible rfl | simp only [zl, iz_add, iz_sub, iz_mul, iz_neg]) hi_24 (by decide)
      try rw [e_25]
      obtain ⟨hi_26, hv⟩ := hv
      refine ⟨z_in (by first | with_reducible rfl | simp only [zl, iz_add, iz_sub, iz_mul, iz_neg]) hi_26 (by decide), ?_⟩
      have e_27 : ((az m_pad) (((iz a1) - 1)).toNatClampNeg) = iz (m_pad ((a1 - 1)).toNat) := z_at (by first | with_reducible rfl | simp only [zl, iz_add, iz_sub, iz_mul, iz_neg]) (by first | with_reducible rfl | simp only [zl, iz_add, iz_sub, iz_mul, iz_neg]) hi_26 (by decide)
      try rw [e_27]
      obtain ⟨hs_28, hv⟩ := hv
      have q_29 := z_eq (x := (iz (m_pad a1.toNat))) (a := (m_pad a1.toNat)) (by first | with_reducible rfl | simp only [zl, iz_add, iz_sub, iz_mul, iz_neg]) (y := (iz (m_pad ((a1 - 1)).toNat))) (b := (m_pad ((a1 - 1)).toNat)) (by first | with_reducible rfl | simp only [zl, iz_add, iz_sub, iz_mul, iz_neg]) hs_28.1 hs_28.2
      refine ⟨fun c9 => ?_, fun c9 => ?_⟩
      · have hv := hv.1 (q_29.mp c9)
        exact hp _ _ _ _ hv (by first | with_reducible rfl | simp only [zl, iz_add, iz_sub, iz_mul, iz_neg]) (by first | with_reducible rfl | simp only [zl, iz_add, iz_sub, iz_mul, iz_neg])
      · have hv := hv.2 (fun z9 => c9 (q_29.mpr z9))
        exact hp _ _ _ _ hv (by first | with_reducible rfl | simp only [zl, iz_add, iz_sub, iz_mul, iz_neg]) (by first | with_reducible rfl | simp only [zl, iz_add, iz_sub, iz_mul, iz_neg])
  · have hv := hv.2.2.1 ((z_eq (x := (iz sw_3)) (y := 2) (a := sw_3) (b := 2) rfl rfl hc_5 (by unfold sm; omega)).mp c9)
    obtain ⟨hi_30, hv⟩ := hv
    refine ⟨z_in (by first | with_reducible rfl | simp only [zl, iz_add, iz_sub, iz_mul, iz_neg]) hi_30 (by decide), ?_⟩
    have e_31 : ((az m_pad) ((iz a1)).toNatClampNeg) = iz (m_pad a1.toNat) := z_at (by first | with_reducible rfl | simp only [zl, iz_add, iz_sub, iz_mul, iz_neg]) (by first | with_reducible rfl | simp only [zl, iz_add, iz_sub, iz_mul, iz_neg]) hi_30 (by decide)
    try rw [e_31]
    refine lift_X5_in (by first | with_reducible rfl | simp only [zl, iz_add, iz_sub, iz_mul, iz_neg]) (by first | with_reducible rfl | simp only [zl, iz_add, iz_sub, iz_mul, iz_neg]) (by first | with_reducible rfl | simp only [zl, iz_add, iz_sub, iz_mul, iz_neg]) hv (fun r_33 u_32 y_34 y_35 hv er_36 eu_37 => ?_)
    subst er_36; subst eu_37
    try dsimp only
    refine ⟨z_nar (by first | with_reducible rfl | simp only [zl, iz_add, iz_sub, iz_mul, iz_neg]) hv.1, hp _ _ _ _ hv.2 (by first | with_reducible rfl | simp only [zl, iz_add, iz_sub, iz_mul, iz_neg]) (by first | with_reducible rfl | simp only [zl, iz_add, iz_sub, iz_mul, iz_neg])⟩
  · have hv := hv.2.2.2 ⟨fun z9 => c9.1 ((z_eq (x := (iz sw_3)) (y := 0) (a := sw_3) (b := 0) rfl rfl hc_5 (by unfold sm; omega)).mpr z9), fun z9 => c9.2.1 ((z_eq (x := (iz sw_3)) (y := 1) (a := sw_3) (b := 1) rfl rfl hc_5 (by unfold sm; omega)).mpr z9), fun z9 => c9.2.2 ((z_eq (x := (iz sw_3)) (y := 2) (a := sw_3) (b := 2) rfl rfl hc_5 (by unfold sm; omega)).mpr z9)⟩
    obtain ⟨hi_38, hv⟩ := hv
    refine ⟨z_in (by first | with_reducible rfl | simp only [zl, iz_add, iz_sub, iz_mul, iz_neg]) hi_38 (by decide), ?_⟩
    have e_39 : ((az m_pad) ((iz a1)).toNatClampNeg) = iz (m_pad a1.toNat) := z_at (by first | with_reducible rfl | simp only [zl, iz_add, iz_sub, iz_mul, iz_neg]) (by first | with_reducible rfl | simp only [zl, iz_add, iz_sub, iz_mul, iz_neg]) hi_38 (by decide)
    try rw [e_39]
    refine lift_X5_in (by first | with_reducible rfl | simp only [zl, iz_add, iz_sub, iz_mul, iz_neg]) (by first | with_reducible rfl | simp only [zl, iz_add, iz_sub, iz_mul, iz_neg]) (by first | with_reducible rfl | simp only [zl, iz_add, iz_sub, iz_mul, iz_neg]) hv (fun r_41 u_40 y_42 y_43 hv er_44 eu_45 => ?_)
    subst er_44; subst eu_45
    try dsimp only
    refine ⟨z_nar (by first | with_reducible rfl | simp only [zl, iz_add, iz_sub, iz_mul, iz_neg]) hv.1, hp _ _ _ _ hv.2 (by first | with_reducible rfl | simp only [zl, iz_add, iz_sub, iz_mul, iz_neg]) (by first | with_reducible rfl | simp only [zl, iz_add, iz_sub, iz_mul, iz_neg])⟩

def iv_X5_fault_L2 (K : Prop) (post : Int → Unit → Prop) (m_pad : (Nat → Int)) (m_said : Int) : Nat → Int → Prop
  | 0, _ => False
  | n + 1, v1 =>
    ((sm m_said ∧ sm v1) ∧ ((m_said ≤ v1 → K) ∧ (¬ m_said ≤ v1 → (iv_X5_canStand v1 m_pad (fun (r_4 : Int) (u_3 : Unit) => ((sm r_4 ∧ sm 0) ∧ ((¬ r_4 = 0 → (∀ x1_11 : Int, x1_11 = v1 + 1 → iv_X5_fault_L2 K post m_pad m_said n x1_11)) ∧ (r_4 = 0 → post v1 ()))))))))

set_option maxHeartbeats 4000000 in
theorem lift_X5_fault_L2 {K0 : Prop} {K : Prop} {post0 : Int32 → Unit → Prop} {post : Int → Unit → Prop} {m_pad' : (Nat → Int32)} {m_pad : (Nat → Int)} {m_said' : Int32} {m_said : Int} (e_m_pad : m_pad' = az m_pad) (e_m_said : m_said' = iz m_said)  (hKx : K → K0) (hp : ∀ (r : Int) (u : Unit) (x : Int32) (y : Unit), post r u → x = iz r → y = () → post0 x y) :
    ∀ (n : Nat) (v1' : Int32) (v1 : Int) (e_v1 : v1' = iz v1), iv_X5_fault_L2 K post m_pad m_said n v1 → vc_X5_fault_L2 K0 post0 m_pad' m_said' n v1' := by
  subst e_m_pad
  subst e_m_said
  intro n
  induction n with
  | zero =>
    intro v1' v1 e_v1 hv
    exact False.elim hv
  | succ n ih =>
    intro v1' v1 e_v1 hv
    subst e_v1
    rw [iv_X5_fault_L2] at hv
    rw [vc_X5_fault_L2]
    obtain ⟨hs_1, hv⟩ := hv
    have q_2 := z_le (x := (iz m_said)) (a := m_said) (by first | with_reducible rfl | simp only [zl, iz_add, iz_sub, iz_mul, iz_neg]) (y := (iz v1)) (b := v1) (by first | with_reducible rfl | simp only [zl, iz_add, iz_sub, iz_mul, iz_neg]) hs_1.1 hs_1.2
    refine ⟨fun c9 => ?_, fun c9 => ?_⟩
    · have hv := hv.1 (q_2.mp c9)
      exact hKx   hv 
    · have hv := hv.2 (fun z9 => c9 (q_2.mpr z9))
      refine lift_X5_canStand (by first | with_reducible rfl | simp only [zl, iz_add, iz_sub, iz_mul, iz_neg]) (by first | with_reducible rfl | simp only [zl, iz_add, iz_sub, iz_mul, iz_neg]) hv (fun r_4 u_3 y_5 y_6 hv er_7 eu_8 => ?_)
      subst er_7; subst eu_8
      try dsimp only
      obtain ⟨hs_9, hv⟩ := hv
      have q_10 := z_eq (x := (iz r_4)) (a := r_4) (by first | with_reducible rfl | simp only [zl, iz_add, iz_sub, iz_mul, iz_neg]) (y := 0) (b := 0) (by first | with_reducible rfl | simp only [zl, iz_add, iz_sub, iz_mul, iz_neg]) hs_9.1 hs_9.2
      refine ⟨fun c9 => ?_, fun c9 => ?_⟩
      · have hv := hv.1 (fun z9 => c9 (q_10.mpr z9))
        intro y_12 hy_12
        obtain ⟨x1_11, hx1_11⟩ : ∃ z : Int, z = v1 + 1 := ⟨_, rfl⟩
        have hv := hv x1_11 hx1_11
        have ey_12 : y_12 = iz x1_11 := by rw [hy_12, hx1_11]; try exact (by first | with_reducible rfl | simp only [zl, iz_add, iz_sub, iz_mul, iz_neg])
        subst ey_12
        exact ih _ x1_11 (by first | with_reducible rfl | simp only [zl, iz_add, iz_sub, iz_mul, iz_neg]) hv
      · have hv := hv.2 (q_10.mp c9)
        exact hp _ _ _ _ hv (by first | with_reducible rfl | simp only [zl, iz_add, iz_sub, iz_mul, iz_neg]) (by first | with_reducible rfl | simp only [zl, iz_add, iz_sub, iz_mul, iz_neg])

def iv_X5_fault (m_pad : (Nat → Int)) (m_said : Int) (post : Int → Unit → Prop) : Prop :=
  (∃ n_17, iv_X5_fault_L2 (((zn m_said) ∧ ((sm (m_said - m_said / 4 * 4) ∧ sm 0) ∧ ((¬ (m_said - m_said / 4 * 4) = 0 → post m_said ()) ∧ ((m_said - m_said / 4 * 4) = 0 → post (-6) ()))))) post m_pad m_said n_17 0)

set_option maxHeartbeats 4000000 in
theorem lift_X5_fault {m_pad' : (Nat → Int32)} {m_pad : (Nat → Int)} {m_said' : Int32} {m_said : Int} (e_m_pad : m_pad' = az m_pad) (e_m_said : m_said' = iz m_said) {post0 : Int32 → Unit → Prop} {post : Int → Unit → Prop} (hv : iv_X5_fault m_pad m_said post) (hp : ∀ (r : Int) (u : Unit) (x : Int32) (y : Unit), post r u → x = iz r → y = () → post0 x y) : vc_X5_fault m_pad' m_said' post0 := by
  subst e_m_pad
  subst e_m_said
  rw [iv_X5_fault] at hv
  rw [vc_X5_fault]
  obtain ⟨n_17, hv⟩ := hv
  refine ⟨n_17, lift_X5_fault_L2 (by first | with_reducible rfl | simp only [zl, iz_add, iz_sub, iz_mul, iz_neg]) (by first | with_reducible rfl | simp only [zl, iz_add, iz_sub, iz_mul, iz_neg]) (fun   hv  => ?_) hp n_17 _ 0 (by first | with_reducible rfl | simp only [zl, iz_add, iz_sub, iz_mul, iz_neg]) hv⟩
  obtain ⟨hc_13, hv⟩ := hv
  have e_14 : ((iz m_said) - (iz m_said) / 4 * 4) = iz (m_said - m_said / 4 * 4) := z_rem (by first | with_reducible rfl | simp only [zl, iz_add, iz_sub, iz_mul, iz_neg]) hc_13 (by decide) (by decide)
  try rw [e_14]
  obtain ⟨hs_15, hv⟩ := hv
  have q_16 := z_eq (x := (iz (m_said - m_said / 4 * 4))) (a := (m_said - m_said / 4 * 4)) (by first | with_reducible rfl | simp only [zl, iz_add, iz_sub, iz_mul, iz_neg]) (y := 0) (b := 0) (by first | with_reducible rfl | simp only [zl, iz_add, iz_sub, iz_mul, iz_neg]) hs_15.1 hs_15.2
  refine ⟨fun c9 => ?_, fun c9 => ?_⟩
  · have hv := hv.1 (fun z9 => c9 (q_16.mpr z9))
    exact hp _ _ _ _ hv (by first | with_reducible rfl | simp only [zl, iz_add, iz_sub, iz_mul, iz_neg]) (by first | with_reducible rfl | simp only [zl, iz_add, iz_sub, iz_mul, iz_neg])
  · have hv := hv.2 (q_16.mp c9)
    exact hp _ _ _ _ hv (by first | with_reducible rfl | simp only [zl, iz_add, iz_sub, iz_mul, iz_neg]) (by first | with_reducible rfl | simp only [zl, iz_add, iz_sub, iz_mul, iz_neg])

def iv_X5_read_L31 (K : (Nat → Int) → Prop) (m_pad : (Nat → Int)) (m_said : Int) : Nat → Int → (Nat → Int) → Prop
  | 0, _, _ => False
  | n + 1, v1, m_state =>
    ((sm m_said ∧ sm v1) ∧ ((m_said ≤ v1 → K m_state) ∧ (¬ m_said ≤ v1 → ((0 ≤ v1 ∧ v1 < 40) ∧ ((0 ≤ (v1 + 1) ∧ (v1 + 1) < 40) ∧ ((0 ≤ (v1 + 2) ∧ (v1 + 2) < 40) ∧ ((0 ≤ (v1 + 3) ∧ (v1 + 3) < 40) ∧ (iv_X5_add ((m_pad v1.toNat) - 97) ((m_pad ((v1 + 1)).toNat) - 97) ((m_pad ((v1 + 2)).toNat) - 48) ((m_pad ((v1 + 3)).toNat) - 48) m_state (fun (r_30 : Int) (u_29 : (Nat → Int)) => (∀ x1_35 : Int, x1_35 = v1 + 4 → iv_X5_read_L31 K m_pad m_said n x1_35 u_29))))))))))

set_option maxHeartbeats 4000000 in
theorem lift_X5_read_L31 {K0 : (Nat → Int32) → Prop} {K : (Nat → Int) → Prop} {m_pad' : (Nat → Int32)} {m_pad : (Nat → Int)} {m_said' : Int32} {m_said : Int} (e_m_pad : m_pad' = az m_pad) (e_m_said : m_said' = iz m_said)  (hKx : ∀ (k_m_state' : (Nat → Int32)) (k_m_state : (Nat → Int)), K k_m_state → k_m_state' = az k_m_state →  K0 k_m_state') :
    ∀ (n : Nat) (v1' : Int32) (m_state' : (Nat → Int32)) (v1 : Int) (m_state : (Nat → Int)) (e_v1 : v1' = iz v1) (e_m_state : m_state' = az m_state), iv_X5_read_L31 K m_pad m_said n v1 m_state → vc_X5_read_L31 K0 m_pad' m_said' n v1' m_state' := by
  subst e_m_pad
  subst e_m_said
  intro n
  induction n with
  | zero =>
    intro v1' m_state' v1 m_state e_v1 e_m_state hv
    exact False.elim hv
  | succ n ih =>
    intro v1' m_state' v1 m_state e_v1 e_m_state hv
    subst e_v1
    subst e_m_state
    rw [iv_X5_read_L31] at hv
    rw [vc_X5_read_L31]
    obtain ⟨hs_19, hv⟩ := hv
    have q_20 := z_le (x := (iz m_said)) (a := m_said) (by first | with_reducible rfl | simp only [zl, iz_add, iz_sub, iz_mul, iz_neg]) (y := (iz v1)) (b := v1) (by first | with_reducible rfl | simp only [zl, iz_add, iz_sub, iz_mul, iz_neg]) hs_19.1 hs_19.2
    refine ⟨fun c9 => ?_, fun c9 => ?_⟩
    · have hv := hv.1 (q_20.mp c9)
      exact hKx _ m_state hv (by first | with_reducible rfl | simp only [zl, iz_add, iz_sub, iz_mul, iz_neg])
    · have hv := hv.2 (fun z9 => c9 (q_20.mpr z9))
      obtain ⟨hi_21, hv⟩ := hv
      refine ⟨z_in (by first | with_reducible rfl | simp only [zl, iz_add, iz_sub, iz_mul, iz_neg]) hi_21 (by decide), ?_⟩
      have e_22 : ((az m_pad) ((iz v1)).toNatClampNeg) = iz (m_pad v1.toNat) := z_at (by first | with_reducible rfl | simp only [zl, iz_add, iz_sub, iz_mul, iz_neg]) (by first | with_reducible rfl | simp only [zl, iz_add, iz_sub, iz_mul, iz_neg]) hi_21 (by decide)
      try rw [e_22]
      obtain ⟨hi_23, hv⟩ := hv
      refine ⟨z_in (by first | with_reducible rfl | simp only [zl, iz_add, iz_sub, iz_mul, iz_neg]) hi_23 (by decide), ?_⟩
      have e_24 : ((az m_pad) (((iz v1) + 1)).toNatClampNeg) = iz (m_pad ((v1 + 1)).toNat) := z_at (by first | with_reducible rfl | simp only [zl, iz_add, iz_sub, iz_mul, iz_neg]) (by first | with_reducible rfl | simp only [zl, iz_add, iz_sub, iz_mul, iz_neg]) hi_23 (by decide)
      try rw [e_24]
      obtain ⟨hi_25, hv⟩ := hv
      refine ⟨z_in (by first | with_reducible rfl | simp only [zl, iz_add, iz_sub, iz_mul, iz_neg]) hi_25 (by decide), ?_⟩
      have e_26 : ((az m_pad) (((iz v1) + 2)).toNatClampNeg) = iz (m_pad ((v1 + 2)).toNat) := z_at (by first | with_reducible rfl | simp only [zl, iz_add, iz_sub, iz_mul, iz_neg]) (by first | with_reducible rfl | simp only [zl, iz_add, iz_sub, iz_mul, iz_neg]) hi_25 (by decide)
      try rw [e_26]
      obtain ⟨hi_27, hv⟩ := hv
      refine ⟨z_in (by first | with_reducible rfl | simp only [zl, iz_add, iz_sub, iz_mul, iz_neg]) hi_27 (by decide), ?_⟩
      have e_28 : ((az m_pad) (((iz v1) + 3)).toNatClampNeg) = iz (m_pad ((v1 + 3)).toNat) := z_at (by first | with_reducible rfl | simp only [zl, iz_add, iz_sub, iz_mul, iz_neg]) (by first | with_reducible rfl | simp only [zl, iz_add, iz_sub, iz_mul, iz_neg]) hi_27 (by decide)
      try rw [e_28]
      refine lift_X5_add (by first | with_reducible rfl | simp only [zl, iz_add, iz_sub, iz_mul, iz_neg]) (by first | with_reducible rfl | simp only [zl, iz_add, iz_sub, iz_mul, iz_neg]) (by first | with_reducible rfl | simp only [zl, iz_add, iz_sub, iz_mul, iz_neg]) (by first | with_reducible rfl | simp only [zl, iz_add, iz_sub, iz_mul, iz_neg]) (by first | with_reducible rfl | simp only [zl, iz_add, iz_sub, iz_mul, iz_neg]) hv (fun r_30 u_29 y_31 y_32 hv er_33 eu_34 => ?_)
      subst er_33; subst eu_34
      try dsimp only
      intro y_36 hy_36
      obtain ⟨x1_35, hx1_35⟩ : ∃ z : Int, z = v1 + 4 := ⟨_, rfl⟩
      have hv := hv x1_35 hx1_35
      have ey_36 : y_36 = iz x1_35 := by rw [hy_36, hx1_35]; try exact (by first | with_reducible rfl | simp only [zl, iz_add, iz_sub, iz_mul, iz_neg])
      subst ey_36
      exact ih _ _ x1_35 u_29 (by first | with_reducible rfl | simp only [zl, iz_add, iz_sub, iz_mul, iz_neg]) (by first | with_reducible rfl | simp only [zl, iz_add, iz_sub, iz_mul, iz_neg]) hv

def iv_X5_read (m_state : (Nat → Int)) (m_pad : (Nat → Int)) (m_said : Int) (post : Int → ((Nat → Int) × Int) → Prop) : Prop :=
  (iv_X5_fault m_pad m_said (fun (r_2 : Int) (u_1 : Unit) => ((sm r_2 ∧ sm 0) ∧ ((r_2 < 0 → (iv_X5_many m_state (fun (r_10 : Int) (u_9 : Unit) => ((zn m_said) ∧ ((sm (r_10 + (m_said / 4)) ∧ sm 10) ∧ (((r_10 + (m_said / 4)) ≤ 10 → (∃ n_44, iv_X5_read_L31 (fun m_state_37 => (iv_X5_many m_state_37 (fun (r_39 : Int) (u_38 : Unit) => post r_39 (m_state_37, 0))))  m_pad m_said n_44 0 m_state)) ∧ (¬ (r_10 + (m_said / 4)) ≤ 10 → post (-4) (m_state, m_said)))))))) ∧ (¬ r_2 < 0 → post (-7) (m_state, m_said))))))

set_option maxHeartbeats 4000000 in
theorem lift_X5_read {m_state' : (Nat → Int32)} {m_state : (Nat → Int)} {m_pad' : (Nat → Int32)} {m_pad : (Nat → Int)} {m_said' : Int32} {m_said : Int} (e_m_state : m_state' = az m_state) (e_m_pad : m_pad' = az m_pad) (e_m_said : m_said' = iz m_said) {post0 : Int32 → ((Nat → Int32) × Int32) → Prop} {post : Int → ((Nat → Int) × Int) → Prop} (hv : iv_X5_read m_state m_pad m_said post) (hp : ∀ (r : Int) (u : (Nat → Int) × Int) (x : Int32) (y : (Nat → Int32) × Int32), post r u → x = iz r → y = (az u.1, iz u.2) → post0 x y) : vc_X5_read m_state' m_pad' m_said' post0 := by
  subst e_m_state
  subst e_m_pad
  subst e_m_said
  rw [iv_X5_read] at hv
  rw [vc_X5_read]
  refine lift_X5_fault (by first | with_reducible rfl | simp only [zl, iz_add, iz_sub, iz_mul, iz_neg]) (by first | with_reducible rfl | simp only [zl, iz_add, iz_sub, iz_mul, iz_neg]) hv (fun r_2 u_1 y_3 y_4 hv er_5 eu_6 => ?_)
  subst er_5; subst eu_6
  try dsimp only
  obtain ⟨hs_7, hv⟩ := hv
  have q_8 := z_lt (x := (iz r_2)) (a := r_2) (by first | with_reducible rfl | simp only [zl, iz_add, iz_sub, iz_mul, iz_neg]) (y := 0) (b := 0) (by first | with_reducible rfl | simp only [zl, iz_add, iz_sub, iz_mul, iz_neg]) hs_7.1 hs_7.2
  refine ⟨fun c9 => ?_, fun c9 => ?_⟩
  · have hv := hv.1 (q_8.mp c9)
    refine lift_X5_many (by first | with_reducible rfl | simp only [zl, iz_add, iz_sub, iz_mul, iz_neg]) hv (fun r_10 u_9 y_11 y_12 hv er_13 eu_14 => ?_)
    subst er_13; subst eu_14
    try dsimp only
    obtain ⟨hc_15, hv⟩ := hv
    have e_16 : ((iz m_said) / 4) = iz (m_said / 4) := z_div (by first | with_reducible rfl | simp only [zl, iz_add, iz_sub, iz_mul, iz_neg]) hc_15 (by decide) (by decide)
    try rw [e_16]
    obtain ⟨hs_17, hv⟩ := hv
    have q_18 := z_le (x := ((iz r_10) + (iz (m_said / 4)))) (a := (r_10 + (m_said / 4))) (by first | with_reducible rfl | simp only [zl, iz_add, iz_sub, iz_mul, iz_neg]) (y := 10) (b := 10) (by first | with_reducible rfl | simp only [zl, iz_add, iz_sub, iz_mul, iz_neg]) hs_17.1 hs_17.2
    refine ⟨fun c9 => ?_, fun c9 => ?_⟩
    · have hv := hv.1 (q_18.mp c9)
      obtain ⟨n_44, hv⟩ := hv
      refine ⟨n_44, lift_X5_read_L31 (by first | with_reducible rfl | simp only [zl, iz_add, iz_sub, iz_mul, iz_neg]) (by first | with_reducible rfl | simp only [zl, iz_add, iz_sub, iz_mul, iz_neg]) (fun y_45 m_state_37 hv ey_46 => ?_)  n_44 _ _ 0 m_state (by first | with_reducible rfl | simp only [zl, iz_add, iz_sub, iz_mul, iz_neg]) (by first | with_reducible rfl | simp only [zl, iz_add, iz_sub, iz_mul, iz_neg]) hv⟩
      subst ey_46
      refine lift_X5_many (by first | with_reducible rfl | simp only [zl, iz_add, iz_sub, iz_mul, iz_neg]) hv (fun r_39 u_38 y_40 y_41 hv er_42 eu_43 => ?_)
      subst er_42; subst eu_43
      try dsimp only
      exact hp _ _ _ _ hv (by first | with_reducible rfl | simp only [zl, iz_add, iz_sub, iz_mul, iz_neg]) (by first | with_reducible rfl | simp only [zl, iz_add, iz_sub, iz_mul, iz_neg])
    · have hv := hv.2 (fun z9 => c9 (q_18.mpr z9))
      exact hp _ _ _ _ hv (by first | with_reducible rfl | simp only [zl, iz_add, iz_sub, iz_mul, iz_neg]) (by first | with_reducible rfl | simp only [zl, iz_add, iz_sub, iz_mul, iz_neg])
  · have hv := hv.2 (fun z9 => c9 (q_8.mpr z9))
    exact hp _ _ _ _ hv (by first | with_reducible rfl | simp only [zl, iz_add, iz_sub, iz_mul, iz_neg]) (by first | with_reducible rfl | simp only [zl, iz_add, iz_sub, iz_mul, iz_neg])

def iv_X5_of (a1 : Int) (a2 : Int) (m_state : (Nat → Int)) (post : Int → Unit → Prop) : Prop :=
  (iv_X5_isPassage a1 m_state (fun (r_2 : Int) (u_1 : Unit) => ((sm r_2 ∧ sm 0) ∧ ((¬ r_2 = 0 → (iv_X5_in a2 0 4 (fun (r_10 : Int) (u_9 : Unit) => ((sm r_10 ∧ sm 0) ∧ ((¬ r_10 = 0 → ((sm a2 ∧ sm 4) ∧ ((¬ a2 = 4 → ((0 ≤ ((18 + (10 * a2)) + a1) ∧ ((18 + (10 * a2)) + a1) < 69) ∧ post (m_state (((18 + (10 * a2)) + a1)).toNat) ())) ∧ (a2 = 4 → (iv_X5_shutFrom a1 m_state (fun (r_22 : Int) (u_21 : Unit) => post r_22 ())))))) ∧ (r_10 = 0 → post (-2) ())))))) ∧ (r_2 = 0 → post (-1) ())))))

set_option maxHeartbeats 4000000 in
theorem lift_X5_of {a1' : Int32} {a1 : Int} {a2' : Int32} {a2 : Int} {m_state' : (Nat → Int32)} {m_state : (Nat → Int)} (e_a1 : a1' = iz a1) (e_a2 : a2' = iz a2) (e_m_state : m_state' = az m_state) {post0 : Int32 → Unit → Prop} {post : Int → Unit → Prop} (hv : iv_X5_of a1 a2 m_state post) (hp : ∀ (r : Int) (u : Unit) (x : Int32) (y : Unit), post r u → x = iz r → y = () → post0 x y) : vc_X5_of a1' a2' m_state' post0 := by
  subst e_a1
  subst e_a2
  subst e_m_state
  rw [iv_X5_of] at hv
  rw [vc_X5_of]
  refine lift_X5_isPassage (by first | with_reducible rfl | simp only [zl, iz_add, iz_sub, iz_mul, iz_neg]) (by first | with_reducible rfl | simp only [zl, iz_add, iz_sub, iz_mul, iz_neg]) hv (fun r_2 u_1 y_3 y_4 hv er_5 eu_6 => ?_)
  subst er_5; subst eu_6
  try dsimp only
  obtain ⟨hs_7, hv⟩ := hv
  have q_8 := z_eq (x := (iz r_2)) (a := r_2) (by first | with_reducible rfl | simp only [zl, iz_add, iz_sub, iz_mul, iz_neg]) (y := 0) (b := 0) (by first | with_reducible rfl | simp only [zl, iz_add, iz_sub, iz_mul, iz_neg]) hs_7.1 hs_7.2
  refine ⟨fun c9 => ?_, fun c9 => ?_⟩
  · have hv := hv.1 (fun z9 => c9 (q_8.mpr z9))
    refine lift_X5_in (by first | with_reducible rfl | simp only [zl, iz_add, iz_sub, iz_mul, iz_neg]) (by first | with_reducible rfl | simp only [zl, iz_add, iz_sub, iz_mul, iz_neg]) (by first | with_reducible rfl | simp only [zl, iz_add, iz_sub, iz_mul, iz_neg]) hv (fun r_10 u_9 y_11 y_12 hv er_13 eu_14 => ?_)
    subst er_13; subst eu_14
    try dsimp only
    obtain ⟨hs_15, hv⟩ := hv
    have q_16 := z_eq (x := (iz r_10)) (a := r_10) (by first | with_reducible rfl | simp only [zl, iz_add, iz_sub, iz_mul, iz_neg]) (y := 0) (b := 0) (by first | with_reducible rfl | simp only [zl, iz_add, iz_sub, iz_mul, iz_neg]) hs_15.1 hs_15.2
    refine ⟨fun c9 => ?_, fun c9 => ?_⟩
    · have hv := hv.1 (fun z9 => c9 (q_16.mpr z9))
      obtain ⟨hs_17, hv⟩ := hv
      have q_18 := z_eq (x := (iz a2)) (a := a2) (by first | with_reducible rfl | simp only [zl, iz_add, iz_sub, iz_mul, iz_neg]) (y := 4) (b := 4) (by first | with_reducible rfl | simp only [zl, iz_add, iz_sub, iz_mul, iz_neg]) hs_17.1 hs_17.2
      refine ⟨fun c9 => ?_, fun c9 => ?_⟩
      · have hv := hv.1 (fun z9 => c9 (q_18.mpr z9))
        obtain ⟨hi_19, hv⟩ := hv
        refine ⟨z_in (by first | with_reducible rfl | simp only [zl, iz_add, iz_sub, iz_mul, iz_neg]) hi_19 (by decide), ?_⟩
        have e_20 : ((az m_state) (((18 + (10 * (iz a2))) + (iz a1))).toNatClampNeg) = iz (m_state (((18 + (10 * a2)) + a1)).toNat) := z_at (by first | with_reducible rfl | simp only [zl, iz_add, iz_sub, iz_mul, iz_neg]) (by first | with_reducible rfl | simp only [zl, iz_add, iz_sub, iz_mul, iz_neg]) hi_19 (by decide)
        try rw [e_20]
        exact hp _ _ _ _ hv (by first | with_reducible rfl | simp only [zl, iz_add, iz_sub, iz_mul, iz_neg]) (by first | with_reducible rfl | simp only [zl, iz_add, iz_sub, iz_mul, iz_neg])
      · have hv := hv.2 (q_18.mp c9)
        refine lift_X5_shutFrom (by first | with_reducible rfl | simp only [zl, iz_add, iz_sub, iz_mul, iz_neg]) (by first | with_reducible rfl | simp only [zl, iz_add, iz_sub, iz_mul, iz_neg]) hv (fun r_22 u_21 y_23 y_24 hv er_25 eu_26 => ?_)
        subst er_25; subst eu_26
        try dsimp only
        exact hp _ _ _ _ hv (by first | with_reducible rfl | simp only [zl, iz_add, iz_sub, iz_mul, iz_neg]) (by first | with_reducible rfl | simp only [zl, iz_add, iz_sub, iz_mul, iz_neg])
    · have hv := hv.2 (q_16.mp c9)
      exact hp _ _ _ _ hv (by first | with_reducible rfl | simp only [zl, iz_add, iz_sub, iz_mul, iz_neg]) (by first | with_reducible rfl | simp only [zl, iz_add, iz_sub, iz_mul, iz_neg])
  · have hv := hv.2 (q_8.mp c9)
    exact hp _ _ _ _ hv (by first | with_reducible rfl | simp only [zl, iz_add, iz_sub, iz_mul, iz_neg]) (by first | with_reducible rfl | simp only [zl, iz_add, iz_sub, iz_mul, iz_neg])

def iv_X5_clearNet_L7 (K : (Nat → Int) → Prop)  : Nat → Int → (Nat → Int) → Prop
  | 0, _, _ => False
  | n + 1, v2, m_goes =>
    ((sm 610 ∧ sm v2) ∧ ((610 ≤ v2 → K m_goes) ∧ (¬ 610 ≤ v2 → ((0 ≤ v2 ∧ v2 < 610) ∧ (∀ x2_5 : Int, x2_5 = v2 + 1 → iv_X5_clearNet_L7 K  n x2_5 (uz m_goes v2.toNat 0))))))

set_option maxHeartbeats 4000000 in
theorem lift_X5_clearNet_L7 {K0 : (Nat → Int32) → Prop} {K : (Nat → Int) → Prop}    (hKx : ∀ (k_m_goes' : (Nat → Int32)) (k_m_goes : (Nat → Int)), K k_m_goes → k_m_goes' = az k_m_goes →  K0 k_m_goes') :
    ∀ (n : Nat) (v2' : Int32) (m_goes' : (Nat → Int32)) (v2 : Int) (m_goes : (Nat → Int)) (e_v2 : v2' = iz v2) (e_m_goes : m_goes' = az m_goes), iv_X5_clearNet_L7 K  n v2 m_goes → vc_X5_clearNet_L7 K0  n v2' m_goes' := by
  intro n
  induction n with
  | zero =>
    intro v2' m_goes' v2 m_goes e_v2 e_m_goes hv
    exact False.elim hv
  | succ n ih =>
    intro v2' m_goes' v2 m_goes e_v2 e_m_goes hv
    subst e_v2
    subst e_m_goes
    rw [iv_X5_clearNet_L7] at hv
    rw [vc_X5_clearNet_L7]
    obtain ⟨hs_1, hv⟩ := hv
    have q_2 := z_le (x := 610) (a := 610) (by first | with_reducible rfl | simp only [zl, iz_add, iz_sub, iz_mul, iz_neg]) (y := (iz v2)) (b := v2) (by first | with_reducible rfl | simp only [zl, iz_add, iz_sub, iz_mul, iz_neg]) hs_1.1 hs_1.2
    refine ⟨fun c9 => ?_, fun c9 => ?_⟩
    · have hv := hv.1 (q_2.mp c9)
      exact hKx _ m_goes hv (by first | with_reducible rfl | simp only [zl, iz_add, iz_sub, iz_mul, iz_neg])
    · have hv := hv.2 (fun z9 => c9 (q_2.mpr z9))
      obtain ⟨hi_3, hv⟩ := hv
      refine ⟨z_in (by first | with_reducible rfl | simp only [zl, iz_add, iz_sub, iz_mul, iz_neg]) hi_3 (by decide), ?_⟩
      have e_4 : (upd (az m_goes) ((iz v2)).toNatClampNeg 0) = az (uz m_goes v2.toNat 0) := z_upd (by first | with_reducible rfl | simp only [zl, iz_add, iz_sub, iz_mul, iz_neg]) (by first | with_reducible rfl | simp only [zl, iz_add, iz_sub, iz_mul, iz_neg]) (by first | with_reducible rfl | simp only [zl, iz_add, iz_sub, iz_mul, iz_neg]) hi_3 (by decide)
      try rw [e_4]
      intro y_6 hy_6
      obtain ⟨x2_5, hx2_5⟩ : ∃ z : Int, z = v2 + 1 := ⟨_, rfl⟩
      have hv := hv x2_5 hx2_5
      have ey_6 : y_6 = iz x2_5 := by rw [hy_6, hx2_5]; try exact (by first | with_reducible rfl | simp only [zl, iz_add, iz_sub, iz_mul, iz_neg])
      subst ey_6
      exact ih _ _ x2_5 (uz m_goes v2.toNat 0) (by first | with_reducible rfl | simp only [zl, iz_add, iz_sub, iz_mul, iz_neg]) (by first | with_reducible rfl | simp only [zl, iz_add, iz_sub, iz_mul, iz_neg]) hv

def iv_X5_clearNet_L29 (K : (Nat → Int) → Prop)  : Nat → Int → (Nat → Int) → Prop
  | 0, _, _ => False
  | n + 1, v2, m_waits =>
    ((sm 366 ∧ sm v2) ∧ ((366 ≤ v2 → K m_waits) ∧ (¬ 366 ≤ v2 → ((0 ≤ v2 ∧ v2 < 366) ∧ (∀ x2_12 : Int, x2_12 = v2 + 1 → iv_X5_clearNet_L29 K  n x2_12 (uz m_waits v2.toNat 0))))))

set_option maxHeartbeats 4000000 in
theorem lift_X5_clearNet_L29 {K0 : (Nat → Int32) → Prop} {K : (Nat → Int) → Prop}    (hKx : ∀ (k_m_waits' : (Nat → Int32)) (k_m_waits : (Nat → Int)), K k_m_waits → k_m_waits' = az k_m_waits →  K0 k_m_waits') :
    ∀ (n : Nat) (v2' : Int32) (m_waits' : (Nat → Int32)) (v2 : Int) (m_waits : (Nat → Int)) (e_v2 : v2' = iz v2) (e_m_waits : m_waits' = az m_waits), iv_X5_clearNet_L29 K  n v2 m_waits → vc_X5_clearNet_L29 K0  n v2' m_waits' := by
  intro n
  induction n with
  | zero =>
    intro v2' m_waits' v2 m_waits e_v2 e_m_waits hv
    exact False.elim hv
  | succ n ih =>
    intro v2' m_waits' v2 m_waits e_v2 e_m_waits hv
    subst e_v2
    subst e_m_waits
    rw [iv_X5_clearNet_L29] at hv
    rw [vc_X5_clearNet_L29]
    obtain ⟨hs_8, hv⟩ := hv
    have q_9 := z_le (x := 366) (a := 366) (by first | with_reducible rfl | simp only [zl, iz_add, iz_sub, iz_mul, iz_neg]) (y := (iz v2)) (b := v2) (by first | with_reducible rfl | simp only [zl, iz_add, iz_sub, iz_mul, iz_neg]) hs_8.1 hs_8.2
    refine ⟨fun c9 => ?_, fun c9 => ?_⟩
    · have hv := hv.1 (q_9.mp c9)
      exact hKx _ m_waits hv (by first | with_reducible rfl | simp only [zl, iz_add, iz_sub, iz_mul, iz_neg])
    · have hv := hv.2 (fun z9 => c9 (q_9.mpr z9))
      obtain ⟨hi_10, hv⟩ := hv
      refine ⟨z_in (by first | with_reducible rfl | simp only [zl, iz_add, iz_sub, iz_mul, iz_neg]) hi_10 (by decide), ?_⟩
      have e_11 : (upd (az m_waits) ((iz v2)).toNatClampNeg 0) = az (uz m_waits v2.toNat 0) := z_upd (by first | with_reducible rfl | simp only [zl, iz_add, iz_sub, iz_mul, iz_neg]) (by first | with_reducible rfl | simp only [zl, iz_add, iz_sub, iz_mul, iz_neg]) (by first | with_reducible rfl | simp only [zl, iz_add, iz_sub, iz_mul, iz_neg]) hi_10 (by decide)
      try rw [e_11]
      intro y_13 hy_13
      obtain ⟨x2_12, hx2_12⟩ : ∃ z : Int, z = v2 + 1 := ⟨_, rfl⟩
      have hv := hv x2_12 hx2_12
      have ey_13 : y_13 = iz x2_12 := by rw [hy_13, hx2_12]; try exact (by first | with_reducible rfl | simp only [zl, iz_add, iz_sub, iz_mul, iz_neg])
      subst ey_13
      exact ih _ _ x2_12 (uz m_waits v2.toNat 0) (by first | with_reducible rfl | simp only [zl, iz_add, iz_sub, iz_mul, iz_neg]) (by first | with_reducible rfl | simp only [zl, iz_add, iz_sub, iz_mul, iz_neg]) hv

def iv_X5_clearNet_L51 (K : (Nat → Int) → Prop) (m_state : (Nat → Int)) : Nat → Int → (Nat → Int) → Prop
  | 0, _, _ => False
  | n + 1, v2, m_still =>
    ((sm 6 ∧ sm v2) ∧ ((6 ≤ v2 → K m_still) ∧ (¬ 6 ≤ v2 → (iv_X5_isSafe v2 m_state (fun (r_18 : Int) (u_17 : Unit) => ((sm r_18 ∧ sm 0) ∧ ((r_18 = 0 → ((0 ≤ (0 + v2) ∧ (0 + v2) < 69) ∧ ((0 ≤ v2 ∧ v2 < 6) ∧ (∀ x2_29 : Int, x2_29 = v2 + 1 → iv_X5_clearNet_L51 K m_state n x2_29 (uz m_still v2.toNat (m_state ((0 + v2)).toNat)))))) ∧ (¬ r_18 = 0 → ((0 ≤ v2 ∧ v2 < 6) ∧ (∀ x2_33 : Int, x2_33 = v2 + 1 → iv_X5_clearNet_L51 K m_state n x2_33 (uz m_still v2.toNat 0)))))))))))

set_option maxHeartbeats 4000000 in
theorem lift_X5_clearNet_L51 {K0 : (Nat → Int32) → Prop} {K : (Nat → Int) → Prop} {m_state' : (Nat → Int32)} {m_state : (Nat → Int)} (e_m_state : m_state' = az m_state)  (hKx : ∀ (k_m_still' : (Nat → Int32)) (k_m_still : (Nat → Int)), K k_m_still → k_m_still' = az k_m_still →  K0 k_m_still') :
    ∀ (n : Nat) (v2' : Int32) (m_still' : (Nat → Int32)) (v2 : Int) (m_still : (Nat → Int)) (e_v2 : v2' = iz v2) (e_m_still : m_still' = az m_still), iv_X5_clearNet_L51 K m_state n v2 m_still → vc_X5_clearNet_L51 K0 m_state' n v2' m_still' := by
  subst e_m_state
  intro n
  induction n with
  | zero =>
    intro v2' m_still' v2 m_still e_v2 e_m_still hv
    exact False.elim hv
  | succ n ih =>
    intro v2' m_still' v2 m_still e_v2 e_m_still hv
    subst e_v2
    subst e_m_still
    rw [iv_X5_clearNet_L51] at hv
    rw [vc_X5_clearNet_L51]
    obtain ⟨hs_15, hv⟩ := hv
    have q_16 := z_le (x := 6) (a := 6) (by first | with_reducible rfl | simp only [zl, iz_add, iz_sub, iz_mul, iz_neg]) (y := (iz v2)) (b := v2) (by first | with_reducible rfl | simp only [zl, iz_add, iz_sub, iz_mul, iz_neg]) hs_15.1 hs_15.2
    refine ⟨fun c9 => ?_, fun c9 => ?_⟩
    · have hv := hv.1 (q_16.mp c9)
      exact hKx _ m_still hv (by first | with_reducible rfl | simp only [zl, iz_add, iz_sub, iz_mul, iz_neg])
    · have hv := hv.2 (fun z9 => c9 (q_16.mpr z9))
      refine lift_X5_isSafe (by first | with_reducible rfl | simp only [zl, iz_add, iz_sub, iz_mul, iz_neg]) (by first | with_reducible rfl | simp only [zl, iz_add, iz_sub, iz_mul, iz_neg]) hv (fun r_18 u_17 y_19 y_20 hv er_21 eu_22 => ?_)
      subst er_21; subst eu_22
      try dsimp only
      obtain ⟨hs_23, hv⟩ := hv
      have q_24 := z_eq (x := (iz r_18)) (a := r_18) (by first | with_reducible rfl | simp only [zl, iz_add, iz_sub, iz_mul, iz_neg]) (y := 0) (b := 0) (by first | with_reducible rfl | simp only [zl, iz_add, iz_sub, iz_mul, iz_neg]) hs_23.1 hs_23.2
      refine ⟨fun c9 => ?_, fun c9 => ?_⟩
      · have hv := hv.1 (q_24.mp c9)
        obtain ⟨hi_25, hv⟩ := hv
        refine ⟨z_in (by first | with_reducible rfl | simp only [zl, iz_add, iz_sub, iz_mul, iz_neg]) hi_25 (by decide), ?_⟩
        have e_26 : ((az m_state) ((0 + (iz v2))).toNatClampNeg) = iz (m_state ((0 + v2)).toNat) := z_at (by first | with_reducible rfl | simp only [zl, iz_add, iz_sub, iz_mul, iz_neg]) (by first | with_reducible rfl | simp only [zl, iz_add, iz_sub, iz_mul, iz_neg]) hi_25 (by decide)
        try rw [e_26]
        obtain ⟨hi_27, hv⟩ := hv
        refine ⟨z_in (by first | with_reducible rfl | simp only [zl, iz_add, iz_sub, iz_mul, iz_neg]) hi_27 (by decide), ?_⟩
        have e_28 : (upd (az m_still) ((iz v2)).toNatClampNeg (iz (m_state ((0 + v2)).toNat))) = az (uz m_still v2.toNat (m_state ((0 + v2)).toNat)) := z_upd (by first | with_reducible rfl | simp only [zl, iz_add, iz_sub, iz_mul, iz_neg]) (by first | with_reducible rfl | simp only [zl, iz_add, iz_sub, iz_mul, iz_neg]) (by first | with_reducible rfl | simp only [zl, iz_add, iz_sub, iz_mul, iz_neg]) hi_27 (by decide)
        try rw [e_28]
        intro y_30 hy_30
        obtain ⟨x2_29, hx2_29⟩ : ∃ z : Int, z = v2 + 1 := ⟨_, rfl⟩
        have hv := hv x2_29 hx2_29
        have ey_30 : y_30 = iz x2_29 := by rw [hy_30, hx2_29]; try exact (by first | with_reducible rfl | simp only [zl, iz_add, iz_sub, iz_mul, iz_neg])
        subst ey_30
        exact ih _ _ x2_29 (uz m_still v2.toNat (m_state ((0 + v2)).toNat)) (by first | with_reducible rfl | simp only [zl, iz_add, iz_sub, iz_mul, iz_neg]) (by first | with_reducible rfl | simp only [zl, iz_add, iz_sub, iz_mul, iz_neg]) hv
      · have hv := hv.2 (fun z9 => c9 (q_24.mpr z9))
        obtain ⟨hi_31, hv⟩ := hv
        refine ⟨z_in (by first | with_reducible rfl | simp only [zl, iz_add, iz_sub, iz_mul, iz_neg]) hi_31 (by decide), ?_⟩
        have e_32 : (upd (az m_still) ((iz v2)).toNatClampNeg 0) = az (uz m_still v2.toNat 0) := z_upd (by first | with_reducible rfl | simp only [zl, iz_add, iz_sub, iz_mul, iz_neg]) (by first | with_reducible rfl | simp only [zl, iz_add, iz_sub, iz_mul, iz_neg]) (by first | with_reducible rfl | simp only [zl, iz_add, iz_sub, iz_mul, iz_neg]) hi_31 (by decide)
        try rw [e_32]
        intro y_34 hy_34
        obtain ⟨x2_33, hx2_33⟩ : ∃ z : Int, z = v2 + 1 := ⟨_, rfl⟩
        have hv := hv x2_33 hx2_33
        have ey_34 : y_34 = iz x2_33 := by rw [hy_34, hx2_33]; try exact (by first | with_reducible rfl | simp only [zl, iz_add, iz_sub, iz_mul, iz_neg])
        subst ey_34
        exact ih _ _ x2_33 (uz m_still v2.toNat 0) (by first | with_reducible rfl | simp only [zl, iz_add, iz_sub, iz_mul, iz_neg]) (by first | with_reducible rfl | simp only [zl, iz_add, iz_sub, iz_mul, iz_neg]) hv

def iv_X5_clearNet (a1 : Int) (m_state : (Nat → Int)) (m_goes : (Nat → Int)) (m_waits : (Nat → Int)) (m_still : (Nat → Int)) (m_until : Int) (post : ((Nat → Int) × (Nat → Int) × (Nat → Int) × Int) → Prop) : Prop :=
  (∃ n_42, iv_X5_clearNet_L7 (fun m_goes_7 => (∃ n_39, iv_X5_clearNet_L29 (fun m_waits_14 => (∃ n_36, iv_X5_clearNet_L51 (fun m_still_35 => post (m_goes_7, m_waits_14, m_still_35, a1))  m_state n_36 0 m_still))   n_39 0 m_waits))   n_42 0 m_goes)

set_option maxHeartbeats 4000000 in
theorem lift_X5_clearNet {a1' : Int32} {a1 : Int} {m_state' : (Nat → Int32)} {m_state : (Nat → Int)} {m_goes' : (Nat → Int32)} {m_goes : (Nat → Int)} {m_waits' : (Nat → Int32)} {m_waits : (Nat → Int)} {m_still' : (Nat → Int32)} {m_still : (Nat → Int)} {m_until' : Int32} {m_until : Int} (e_a1 : a1' = iz a1) (e_m_state : m_state' = az m_state) (e_m_goes : m_goes' = az m_goes) (e_m_waits : m_waits' = az m_waits) (e_m_still : m_still' = az m_still) (e_m_until : m_until' = iz m_until) {post0 : ((Nat → Int32) × (Nat → Int32) × (Nat → Int32) × Int32) → Prop} {post : ((Nat → Int) × (Nat → Int) × (Nat → Int) × Int) → Prop} (hv : iv_X5_clearNet a1 m_state m_goes m_waits m_still m_until post) (hp : ∀ (u : (Nat → Int) × (Nat → Int) × (Nat → Int) × Int) (y : (Nat → Int32) × (Nat → Int32) × (Nat → Int32) × Int32), post u → y = (az u.1, az u.2.1, az u.2.2.1, iz u.2.2.2) → post0 y) : vc_X5_clearNet a1' m_state' m_goes' m_waits' m_still' m_until' post0 := by
  subst e_a1
  subst e_m_state
  subst e_m_goes
  subst e_m_waits
  subst e_m_still
  subst e_m_until
  rw [iv_X5_clearNet] at hv
  rw [vc_X5_clearNet]
  obtain ⟨n_42, hv⟩ := hv
  refine ⟨n_42, lift_X5_clearNet_L7  (fun y_43 m_goes_7 hv ey_44 => ?_)  n_42 _ _ 0 m_goes (by first | with_reducible rfl | simp only [zl, iz_add, iz_sub, iz_mul, iz_neg]) (by first | with_reducible rfl | simp only [zl, iz_add, iz_sub, iz_mul, iz_neg]) hv⟩
  subst ey_44
  obtain ⟨n_39, hv⟩ := hv
  refine ⟨n_39, lift_X5_clearNet_L29  (fun y_40 m_waits_14 hv ey_41 => ?_)  n_39 _ _ 0 m_waits (by first | with_reducible rfl | simp only [zl, iz_add, iz_sub, iz_mul, iz_neg]) (by first | with_reducible rfl | simp only [zl, iz_add, iz_sub, iz_mul, iz_neg]) hv⟩
  subst ey_41
  obtain ⟨n_36, hv⟩ := hv
  refine ⟨n_36, lift_X5_clearNet_L51 (by first | with_reducible rfl | simp only [zl, iz_add, iz_sub, iz_mul, iz_neg]) (fun y_37 m_still_35 hv ey_38 => ?_)  n_36 _ _ 0 m_still (by first | with_reducible rfl | simp only [zl, iz_add, iz_sub, iz_mul, iz_neg]) (by first | with_reducible rfl | simp only [zl, iz_add, iz_sub, iz_mul, iz_neg]) hv⟩
  subst ey_38
  exact hp _ _ hv (by first | with_reducible rfl | simp only [zl, iz_add, iz_sub, iz_mul, iz_neg])

def iv_X5_come (a1 : Int) (a2 : Int) (a3 : Int) (m_cameFrom : (Nat → Int)) (m_cameBy : (Nat → Int)) (m_wave : (Nat → Int)) (m_waved : Int) (post : ((Nat → Int) × (Nat → Int) × (Nat → Int) × Int) → Prop) : Prop :=
  ((0 ≤ a1 ∧ a1 < 366) ∧ ((sm (m_cameBy a1.toNat) ∧ sm (-6)) ∧ ((¬ (m_cameBy a1.toNat) = (-6) → post (m_cameFrom, m_cameBy, m_wave, m_waved)) ∧ ((m_cameBy a1.toNat) = (-6) → ((0 ≤ a1 ∧ a1 < 366) ∧ ((0 ≤ a1 ∧ a1 < 366) ∧ ((0 ≤ m_waved ∧ m_waved < 366) ∧ post ((uz m_cameFrom a1.toNat a2), (uz m_cameBy a1.toNat a3), (uz m_wave m_waved.toNat a1), (m_waved + 1)))))))))

set_option maxHeartbeats 4000000 in
theorem lift_X5_come {a1' : Int32} {a1 : Int} {a2' : Int32} {a2 : Int} {a3' : Int32} {a3 : Int} {m_cameFrom' : (Nat → Int32)} {m_cameFrom : (Nat → Int)} {m_cameBy' : (Nat → Int32)} {m_cameBy : (Nat → Int)} {m_wave' : (Nat → Int32)} {m_wave : (Nat → Int)} {m_waved' : Int32} {m_waved : Int} (e_a1 : a1' = iz a1) (e_a2 : a2' = iz a2) (e_a3 : a3' = iz a3) (e_m_cameFrom : m_cameFrom' = az m_cameFrom) (e_m_cameBy : m_cameBy' = az m_cameBy) (e_m_wave : m_wave' = az m_wave) (e_m_waved : m_waved' = iz m_waved) {post0 : ((Nat → Int32) × (Nat → Int32) × (Nat → Int32) × Int32) → Prop} {post : ((Nat → Int) × (Nat → Int) × (Nat → Int) × Int) → Prop} (hv : iv_X5_come a1 a2 a3 m_cameFrom m_cameBy m_wave m_waved post) (hp : ∀ (u : (Nat → Int) × (Nat → Int) × (Nat → Int) × Int) (y : (Nat → Int32) × (Nat → Int32) × (Nat → Int32) × Int32), post u → y = (az u.1, az u.2.1, az u.2.2.1, iz u.2.2.2) → post0 y) : vc_X5_come a1' a2' a3' m_cameFrom' m_cameBy' m_wave' m_waved' post0 := by
  subst e_a1
  subst e_a2
  subst e_a3
  subst e_m_cameFrom
  subst e_m_cameBy
  subst e_m_wave
  subst e_m_waved
  rw [iv_X5_come] at hv
  rw [vc_X5_come]
  obtain ⟨hi_1, hv⟩ := hv
  refine ⟨z_in (by first | with_reducible rfl | simp only [zl, iz_add, iz_sub, iz_mul, iz_neg]) hi_1 (by decide), ?_⟩
  have e_2 : ((az m_cameBy) ((iz a1)).toNatClampNeg) = iz (m_cameBy a1.toNat) := z_at (by first | with_reducible rfl | simp only [zl, iz_add, iz_sub, iz_mul, iz_neg]) (by first | with_reducible rfl | simp only [zl, iz_add, iz_sub, iz_mul, iz_neg]) hi_1 (by decide)
  try rw [e_2]
  obtain ⟨hs_3, hv⟩ := hv
  have q_4 := z_eq (x := (iz (m_cameBy a1.toNat))) (a := (m_cameBy a1.toNat)) (by first | with_reducible rfl | simp only [zl, iz_add, iz_sub, iz_mul, iz_neg]) (y := (-6)) (b := (-6)) (by first | with_reducible rfl | simp only [zl, iz_add, iz_sub, iz_mul, iz_neg]) hs_3.1 hs_3.2
  refine ⟨fun c9 => ?_, fun c9 => ?_⟩
  · have hv := hv.1 (fun z9 => c9 (q_4.mpr z9))
    exact hp _ _ hv (by first | with_reducible rfl | simp only [zl, iz_add, iz_sub, iz_mul, iz_neg])
  · have hv := hv.2 (q_4.mp c9)
    obtain ⟨hi_5, hv⟩ := hv
    refine ⟨z_in (by first | with_reducible rfl | simp only [zl, iz_add, iz_sub, iz_mul, iz_neg]) hi_5 (by decide), ?_⟩
    have e_6 : (upd (az m_cameFrom) ((iz a1)).toNatClampNeg (iz a2)) = az (uz m_cameFrom a1.toNat a2) := z_upd (by first | with_reducible rfl | simp only [zl, iz_add, iz_sub, iz_mul, iz_neg]) (by first | with_reducible rfl | simp only [zl, iz_add, iz_sub, iz_mul, iz_neg]) (by first | with_reducible rfl | simp only [zl, iz_add, iz_sub, iz_mul, iz_neg]) hi_5 (by decide)
    try rw [e_6]
    obtain ⟨hi_7, hv⟩ := hv
    refine ⟨z_in (by first | with_reducible rfl | simp only [zl, iz_add, iz_sub, iz_mul, iz_neg]) hi_7 (by decide), ?_⟩
    have e_8 : (upd (az m_cameBy) ((iz a1)).toNatClampNeg (iz a3)) = az (uz m_cameBy a1.toNat a3) := z_upd (by first | with_reducible rfl | simp only [zl, iz_add, iz_sub, iz_mul, iz_neg]) (by first | with_reducible rfl | simp only [zl, iz_add, iz_sub, iz_mul, iz_neg]) (by first | with_reducible rfl | simp only [zl, iz_add, iz_sub, iz_mul, iz_neg]) hi_7 (by decide)
    try rw [e_8]
    obtain ⟨hi_9, hv⟩ := hv
    refine ⟨z_in (by first | with_reducible rfl | simp only [zl, iz_add, iz_sub, iz_mul, iz_neg]) hi_9 (by decide), ?_⟩
    have e_10 : (upd (az m_wave) ((iz m_waved)).toNatClampNeg (iz a1)) = az (uz m_wave m_waved.toNat a1) := z_upd (by first | with_reducible rfl | simp only [zl, iz_add, iz_sub, iz_mul, iz_neg]) (by first | with_reducible rfl | simp only [zl, iz_add, iz_sub, iz_mul, iz_neg]) (by first | with_reducible rfl | simp only [zl, iz_add, iz_sub, iz_mul, iz_neg]) hi_9 (by decide)
    try rw [e_10]
    exact hp _ _ hv (by first | with_reducible rfl | simp only [zl, iz_add, iz_sub, iz_mul, iz_neg])

def iv_X5_beginWave_L13 (K : (Nat → Int) → Prop)  : Nat → Int → (Nat → Int) → Prop
  | 0, _, _ => False
  | n + 1, v1, m_cameBy =>
    ((sm 366 ∧ sm v1) ∧ ((366 ≤ v1 → K m_cameBy) ∧ (¬ 366 ≤ v1 → ((0 ≤ v1 ∧ v1 < 366) ∧ (∀ x1_5 : Int, x1_5 = v1 + 1 → iv_X5_beginWave_L13 K  n x1_5 (uz m_cameBy v1.toNat (-6)))))))

set_option maxHeartbeats 4000000 in
theorem lift_X5_beginWave_L13 {K0 : (Nat → Int32) → Prop} {K : (Nat → Int) → Prop}    (hKx : ∀ (k_m_cameBy' : (Nat → Int32)) (k_m_cameBy : (Nat → Int)), K k_m_cameBy → k_m_cameBy' = az k_m_cameBy →  K0 k_m_cameBy') :
    ∀ (n : Nat) (v1' : Int32) (m_cameBy' : (Nat → Int32)) (v1 : Int) (m_cameBy : (Nat → Int)) (e_v1 : v1' = iz v1) (e_m_cameBy : m_cameBy' = az m_cameBy), iv_X5_beginWave_L13 K  n v1 m_cameBy → vc_X5_beginWave_L13 K0  n v1' m_cameBy' := by
  intro n
  induction n with
  | zero =>
    intro v1' m_cameBy' v1 m_cameBy e_v1 e_m_cameBy hv
    exact False.elim hv
  | succ n ih =>
    intro v1' m_cameBy' v1 m_cameBy e_v1 e_m_cameBy hv
    subst e_v1
    subst e_m_cameBy
    rw [iv_X5_beginWave_L13] at hv
    rw [vc_X5_beginWave_L13]
    obtain ⟨hs_1, hv⟩ := hv
    have q_2 := z_le (x := 366) (a := 366) (by first | with_reducible rfl | simp only [zl, iz_add, iz_sub, iz_mul, iz_neg]) (y := (iz v1)) (b := v1) (by first | with_reducible rfl | simp only [zl, iz_add, iz_sub, iz_mul, iz_neg]) hs_1.1 hs_1.2
    refine ⟨fun c9 => ?_, fun c9 => ?_⟩
    · have hv := hv.1 (q_2.mp c9)
      exact hKx _ m_cameBy hv (by first | with_reducible rfl | simp only [zl, iz_add, iz_sub, iz_mul, iz_neg])
    · have hv := hv.2 (fun z9 => c9 (q_2.mpr z9))
      obtain ⟨hi_3, hv⟩ := hv
      refine ⟨z_in (by first | with_reducible rfl | simp only [zl, iz_add, iz_sub, iz_mul, iz_neg]) hi_3 (by decide), ?_⟩
      have e_4 : (upd (az m_cameBy) ((iz v1)).toNatClampNeg (-6)) = az (uz m_cameBy v1.toNat (-6)) := z_upd (by first | with_reducible rfl | simp only [zl, iz_add, iz_sub, iz_mul, iz_neg]) (by first | with_reducible rfl | simp only [zl, iz_add, iz_sub, iz_mul, iz_neg]) (by first | with_reducible rfl | simp only [zl, iz_add, iz_sub, iz_mul, iz_neg]) hi_3 (by decide)
      try rw [e_4]
      intro y_6 hy_6
      obtain ⟨x1_5, hx1_5⟩ : ∃ z : Int, z = v1 + 1 := ⟨_, rfl⟩
      have hv := hv x1_5 hx1_5
      have ey_6 : y_6 = iz x1_5 := by rw [hy_6, hx1_5]; try exact (by first | with_reducible rfl | simp only [zl, iz_add, iz_sub, iz_mul, iz_neg])
      subst ey_6
      exact ih _ _ x1_5 (uz m_cameBy v1.toNat (-6)) (by first | with_reducible rfl | simp only [zl, iz_add, iz_sub, iz_mul, iz_neg]) (by first | with_reducible rfl | simp only [zl, iz_add, iz_sub, iz_mul, iz_neg]) hv

def iv_X5_beginWave_L36 (K : (Nat → Int) → (Nat → Int) → (Nat → Int) → Int → Prop) (m_still : (Nat → Int)) : Nat → Int → (Nat → Int) → (Nat → Int) → (Nat → Int) → Int → Prop
  | 0, _, _, _, _, _ => False
  | n + 1, v1, m_cameFrom, m_cameBy, m_wave, m_waved =>
    ((sm 6 ∧ sm v1) ∧ ((6 ≤ v1 → K m_cameFrom m_cameBy m_wave m_waved) ∧ (¬ 6 ≤ v1 → ((0 ≤ v1 ∧ v1 < 6) ∧ ((sm (m_still v1.toNat) ∧ sm 0) ∧ (((m_still v1.toNat) ≤ 0 → (∀ x1_14 : Int, x1_14 = v1 + 1 → iv_X5_beginWave_L36 K m_still n x1_14 m_cameFrom m_cameBy m_wave m_waved)) ∧ (¬ (m_still v1.toNat) ≤ 0 → (iv_X5_come (61 * v1) (-6) 0 m_cameFrom m_cameBy m_wave m_waved (fun (u_16 : (Nat → Int) × (Nat → Int) × (Nat → Int) × Int) => (∀ x1_21 : Int, x1_21 = v1 + 1 → iv_X5_beginWave_L36 K m_still n x1_21 u_16.1 u_16.2.1 u_16.2.2.1 u_16.2.2.2))))))))))

set_option maxHeartbeats 4000000 in
theorem lift_X5_beginWave_L36 {K0 : (Nat → Int32) → (Nat → Int32) → (Nat → Int32) → Int32 → Prop} {K : (Nat → Int) → (Nat → Int) → (Nat → Int) → Int → Prop} {m_still' : (Nat → Int32)} {m_still : (Nat → Int)} (e_m_still : m_still' = az m_still)  (hKx : ∀ (k_m_cameFrom' : (Nat → Int32)) (k_m_cameBy' : (Nat → Int32)) (k_m_wave' : (Nat → Int32)) (k_m_waved' : Int32) (k_m_cameFrom : (Nat → Int)) (k_m_cameBy : (Nat → Int)) (k_m_wave : (Nat → Int)) (k_m_waved : Int), K k_m_cameFrom k_m_cameBy k_m_wave k_m_waved → k_m_cameFrom' = az k_m_cameFrom → k_m_cameBy' = az k_m_cameBy → k_m_wave' = az k_m_wave → k_m_waved' = iz k_m_waved →  K0 k_m_cameFrom' k_m_cameBy' k_m_wave' k_m_waved') :
    ∀ (n : Nat) (v1' : Int32) (m_cameFrom' : (Nat → Int32)) (m_cameBy' : (Nat → Int32)) (m_wave' : (Nat → Int32)) (m_waved' : Int32) (v1 : Int) (m_cameFrom : (Nat → Int)) (m_cameBy : (Nat → Int)) (m_wave : (Nat → Int)) (m_waved : Int) (e_v1 : v1' = iz v1) (e_m_cameFrom : m_cameFrom' = az m_cameFrom) (e_m_cameBy : m_cameBy' = az m_cameBy) (e_m_wave : m_wave' = az m_wave) (e_m_waved : m_waved' = iz m_waved), iv_X5_beginWave_L36 K m_still n v1 m_cameFrom m_cameBy m_wave m_waved → vc_X5_beginWave_L36 K0 m_still' n v1' m_cameFrom' m_cameBy' m_wave' m_waved' := by
  subst e_m_still
  intro n
  induction n with
  | zero =>
    intro v1' m_cameFrom' m_cameBy' m_wave' m_waved' v1 m_cameFrom m_cameBy m_wave m_waved e_v1 e_m_cameFrom e_m_cameBy e_m_wave e_m_waved hv
    exact False.elim hv
  | succ n ih =>
    intro v1' m_cameFrom' m_cameBy' m_wave' m_waved' v1 m_cameFrom m_cameBy m_wave m_waved e_v1 e_m_cameFrom e_m_cameBy e_m_wave e_m_waved hv
    subst e_v1
    subst e_m_cameFrom
    subst e_m_cameBy
    subst e_m_wave
    subst e_m_waved
    rw [iv_X5_beginWave_L36] at hv
    rw [vc_X5_beginWave_L36]
    obtain ⟨hs_8, hv⟩ := hv
    have q_9 := z_le (x := 6) (a := 6) (by first | with_reducible rfl | simp only [zl, iz_add, iz_sub, iz_mul, iz_neg]) (y := (iz v1)) (b := v1) (by first | with_reducible rfl | simp only [zl, iz_add, iz_sub, iz_mul, iz_neg]) hs_8.1 hs_8.2
    refine ⟨fun c9 => ?_, fun c9 => ?_⟩
    · have hv := hv.1 (q_9.mp c9)
      exact hKx _ _ _ _ m_cameFrom m_cameBy m_wave m_waved hv (by first | with_reducible rfl | simp only [zl, iz_add, iz_sub, iz_mul, iz_neg]) (by first | with_reducible rfl | simp only [zl, iz_add, iz_sub, iz_mul, iz_neg]) (by first | with_reducible rfl | simp only [zl, iz_add, iz_sub, iz_mul, iz_neg]) (by first | with_reducible rfl | simp only [zl, iz_add, iz_sub, iz_mul, iz_neg])
    · have hv := hv.2 (fun z9 => c9 (q_9.mpr z9))
      obtain ⟨hi_10, hv⟩ := hv
      refine ⟨z_in (by first | with_reducible rfl | simp only [zl, iz_add, iz_sub, iz_mul, iz_neg]) hi_10 (by decide), ?_⟩
      have e_11 : ((az m_still) ((iz v1)).toNatClampNeg) = iz (m_still v1.toNat) := z_at (by first | with_reducible rfl | simp only [zl, iz_add, iz_sub, iz_mul, iz_neg]) (by first | with_reducible rfl | simp only [zl, iz_add, iz_sub, iz_mul, iz_neg]) hi_10 (by decide)
      try rw [e_11]
      obtain ⟨hs_12, hv⟩ := hv
      have q_13 := z_le (x := (iz (m_still v1.toNat))) (a := (m_still v1.toNat)) (by first | with_reducible rfl | simp only [zl, iz_add, iz_sub, iz_mul, iz_neg]) (y := 0) (b := 0) (by first | with_reducible rfl | simp only [zl, iz_add, iz_sub, iz_mul, iz_neg]) hs_12.1 hs_12.2
      refine ⟨fun c9 => ?_, fun c9 => ?_⟩
      · have hv := hv.1 (q_13.mp c9)
        intro y_15 hy_15
        obtain ⟨x1_14, hx1_14⟩ : ∃ z : Int, z = v1 + 1 := ⟨_, rfl⟩
        have hv := hv x1_14 hx1_14
        have ey_15 : y_15 = iz x1_14 := by rw [hy_15, hx1_14]; try exact (by first | with_reducible rfl | simp only [zl, iz_add, iz_sub, iz_mul, iz_neg])
        subst ey_15
        exact ih _ _ _ _ _ x1_14 m_cameFrom m_cameBy m_wave m_waved (by first | with_reducible rfl | simp only [zl, iz_add, iz_sub, iz_mul, iz_neg]) (by first | with_reducible rfl | simp only [zl, iz_add, iz_sub, iz_mul, iz_neg]) (by first | with_reducible rfl | simp only [zl, iz_add, iz_sub, iz_mul, iz_neg]) (by first | with_reducible rfl | simp only [zl, iz_add, iz_sub, iz_mul, iz_neg]) (by first | with_reducible rfl | simp only [zl, iz_add, iz_sub, iz_mul, iz_neg]) hv
      · have hv := hv.2 (fun z9 => c9 (q_13.mpr z9))
        refine lift_X5_come (by first | with_reducible rfl | simp only [zl, iz_add, iz_sub, iz_mul, iz_neg]) (by first | with_reducible rfl | simp only [zl, iz_add, iz_sub, iz_mul, iz_neg]) (by first | with_reducible rfl | simp only [zl, iz_add, iz_sub, iz_mul, iz_neg]) (by first | with_reducible rfl | simp only [zl, iz_add, iz_sub, iz_mul, iz_neg]) (by first | with_reducible rfl | simp only [zl, iz_add, iz_sub, iz_mul, iz_neg]) (by first | with_reducible rfl | simp only [zl, iz_add, iz_sub, iz_mul, iz_neg]) (by first | with_reducible rfl | simp only [zl, iz_add, iz_sub, iz_mul, iz_neg]) hv (fun u_16 y_18 hv eu_20 => ?_)
        subst eu_20
        try dsimp only
        intro y_22 hy_22
        obtain ⟨x1_21, hx1_21⟩ : ∃ z : Int, z = v1 + 1 := ⟨_, rfl⟩
        have hv := hv x1_21 hx1_21
        have ey_22 : y_22 = iz x1_21 := by rw [hy_22, hx1_21]; try exact (by first | with_reducible rfl | simp only [zl, iz_add, iz_sub, iz_mul, iz_neg])
        subst ey_22
        exact ih _ _ _ _ _ x1_21 u_16.1 u_16.2.1 u_16.2.2.1 u_16.2.2.2 (by first | with_reducible rfl | simp only [zl, iz_add, iz_sub, iz_mul, iz_neg]) (by first | with_reducible rfl | simp only [zl, iz_add, iz_sub, iz_mul, iz_neg]) (by first | with_reducible rfl | simp only [zl, iz_add, iz_sub, iz_mul, iz_neg]) (by first | with_reducible rfl | simp only [zl, iz_add, iz_sub, iz_mul, iz_neg]) (by first | with_reducible rfl | simp only [zl, iz_add, iz_sub, iz_mul, iz_neg]) hv

def iv_X5_beginWave (m_still : (Nat → Int)) (m_cameFrom : (Nat → Int)) (m_cameBy : (Nat → Int)) (m_wave : (Nat → Int)) (m_waved : Int) (m_goal : Int) (post : ((Nat → Int) × (Nat → Int) × (Nat → Int) × Int × Int) → Prop) : Prop :=
  (∃ n_36, iv_X5_beginWave_L13 (fun m_cameBy_7 => (∃ n_27, iv_X5_beginWave_L36 (fun m_cameFrom_23 m_cameBy_24 m_wave_25 m_waved_26 => post (m_cameFrom_23, m_cameBy_24, m_wave_25, m_waved_26, (-6)))  m_still n_27 0 m_cameFrom m_cameBy_7 m_wave 0))   n_36 0 m_cameBy)

set_option maxHeartbeats 4000000 in
theorem lift_X5_beginWave {m_still' : (Nat → Int32)} {m_still : (Nat → Int)} {m_cameFrom' : (Nat → Int32)} {m_cameFrom : (Nat → Int)} {m_cameBy' : (Nat → Int32)} {m_cameBy : (Nat → Int)} {m_wave' : (Nat → Int32)} {m_wave : (Nat → Int)} {m_waved' : Int32} {m_waved : Int} {m_goal' : Int32} {m_goal : Int} (e_m_still : m_still' = az m_still) (e_m_cameFrom : m_cameFrom' = az m_cameFrom) (e_m_cameBy : m_cameBy' = az m_cameBy) (e_m_wave : m_wave' = az m_wave) (e_m_waved : m_waved' = iz m_waved) (e_m_goal : m_goal' = iz m_goal) {post0 : ((Nat → Int32) × (Nat → Int32) × (Nat → Int32) × Int32 × Int32) → Prop} {post : ((Nat → Int) × (Nat → Int) × (Nat → Int) × Int × Int) → Prop} (hv : iv_X5_beginWave m_still m_cameFrom m_cameBy m_wave m_waved m_goal post) (hp : ∀ (u : (Nat → Int) × (Nat → Int) × (Nat → Int) × Int × Int) (y : (Nat → Int32) × (Nat → Int32) × (Nat → Int32) × Int32 × Int32), post u → y = (az u.1, az u.2.1, az u.2.2.1, iz u.2.2.2.1, iz u.2.2.2.2) → post0 y) : vc_X5_beginWave m_still' m_cameFrom' m_cameBy' m_wave' m_waved' m_goal' post0 := by
  subst e_m_still
  subst e_m_cameFrom
  subst e_m_cameBy
  subst e_m_wave
  subst e_m_waved
  subst e_m_goal
  rw [iv_X5_beginWave] at hv
  rw [vc_X5_beginWave]
  obtain ⟨n_36, hv⟩ := hv
  refine ⟨n_36, lift_X5_beginWave_L13  (fun y_37 m_cameBy_7 hv ey_38 => ?_)  n_36 _ _ 0 m_cameBy (by first | with_reducible rfl | simp only [zl, iz_add, iz_sub, iz_mul, iz_neg]) (by first | with_reducible rfl | simp only [zl, iz_add, iz_sub, iz_mul, iz_neg]) hv⟩
  subst ey_38
  obtain ⟨n_27, hv⟩ := hv
  refine ⟨n_27, lift_X5_beginWave_L36 (by first | with_reducible rfl | simp only [zl, iz_add, iz_sub, iz_mul, iz_neg]) (fun y_28 y_29 y_30 y_31 m_cameFrom_23 m_cameBy_24 m_wave_25 m_waved_26 hv ey_32 ey_33 ey_34 ey_35 => ?_)  n_27 _ _ _ _ _ 0 m_cameFrom m_cameBy_7 m_wave 0 (by first | with_reducible rfl | simp only [zl, iz_add, iz_sub, iz_mul, iz_neg]) (by first | with_reducible rfl | simp only [zl, iz_add, iz_sub, iz_mul, iz_neg]) (by first | with_reducible rfl | simp only [zl, iz_add, iz_sub, iz_mul, iz_neg]) (by first | with_reducible rfl | simp only [zl, iz_add, iz_sub, iz_mul, iz_neg]) (by first | with_reducible rfl | simp only [zl, iz_add, iz_sub, iz_mul, iz_neg]) hv⟩
  subst ey_32
  subst ey_33
  subst ey_34
  subst ey_35
  exact hp _ _ hv (by first | with_reducible rfl | simp only [zl, iz_add, iz_sub, iz_mul, iz_neg])

def iv_X5_canGo (a1 : Int) (a2 : Int) (m_state : (Nat → Int)) (m_goes : (Nat → Int)) (m_until : Int) (post : Int → Unit → Prop) : Prop :=
  ((0 ≤ (58 + a1) ∧ (58 + a1) < 69) ∧ ((sm (m_state ((58 + a1)).toNat) ∧ sm a2) ∧ (((m_state ((58 + a1)).toNat) ≤ a2 → post 0 ()) ∧ (¬ (m_state ((58 + a1)).toNat) ≤ a2 → ((0 ≤ ((61 * a1) + a2) ∧ ((61 * a1) + a2) < 610) ∧ ((0 ≤ (38 + a1) ∧ (38 + a1) < 69) ∧ ((sm (m_state ((38 + a1)).toNat) ∧ sm (m_goes (((61 * a1) + a2)).toNat)) ∧ (((m_state ((38 + a1)).toNat) ≤ (m_goes (((61 * a1) + a2)).toNat) → post 0 ()) ∧ (¬ (m_state ((38 + a1)).toNat) ≤ (m_goes (((61 * a1) + a2)).toNat) → ((0 ≤ (48 + a1) ∧ (48 + a1) < 69) ∧ ((sm m_until ∧ sm (a2 + (m_state ((48 + a1)).toNat))) ∧ ((m_until < (a2 + (m_state ((48 + a1)).toNat)) → post 0 ()) ∧ (¬ m_until < (a2 + (m_state ((48 + a1)).toNat)) → post 1 ())))))))))))))

set_option maxHeartbeats 4000000 in
theorem lift_X5_canGo {a1' : Int32} {a1 : Int} {a2' : Int32} {a2 : Int} {m_state' : (Nat → Int32)} {m_state : (Nat → Int)} {m_goes' : (Nat → Int32)} {m_goes : (Nat → Int)} {m_until' : Int32} {m_until : Int} (e_a1 : a1' = iz a1) (e_a2 : a2' = iz a2) (e_m_state : m_state' = az m_state) (e_m_goes : m_goes' = az m_goes) (e_m_until : m_until' = iz m_until) {post0 : Int32 → Unit → Prop} {post : Int → Unit → Prop} (hv : iv_X5_canGo a1 a2 m_state m_goes m_until post) (hp : ∀ (r : Int) (u : Unit) (x : Int32) (y : Unit), post r u → x = iz r → y = () → post0 x y) : vc_X5_canGo a1' a2' m_state' m_goes' m_until' post0 := by
  subst e_a1
  subst e_a2
  subst e_m_state
  subst e_m_goes
  subst e_m_until
  rw [iv_X5_canGo] at hv
  rw [vc_X5_canGo]
  obtain ⟨hi_1, hv⟩ := hv
  refine ⟨z_in (by first | with_reducible rfl | simp only [zl, iz_add, iz_sub, iz_mul, iz_neg]) hi_1 (by decide), ?_⟩
  have e_2 : ((az m_state) ((58 + (iz a1))).toNatClampNeg) = iz (m_state ((58 + a1)).toNat) := z_at (by first | with_reducible rfl | simp only [zl, iz_add, iz_sub, iz_mul, iz_neg]) (by first | with_reducible rfl | simp only [zl, iz_add, iz_sub, iz_mul, iz_neg]) hi_1 (by decide)
  try rw [e_2]
  obtain ⟨hs_3, hv⟩ := hv
  have q_4 := z_le (x := (iz (m_state ((58 + a1)).toNat))) (a := (m_state ((58 + a1)).toNat)) (by first | with_reducible rfl | simp only [zl, iz_add, iz_sub, iz_mul, iz_neg]) (y := (iz a2)) (b := a2) (by first | with_reducible rfl | simp only [zl, iz_add, iz_sub, iz_mul, iz_neg]) hs_3.1 hs_3.2
  refine ⟨fun c9 => ?_, fun c9 => ?_⟩
  · have hv := hv.1 (q_4.mp c9)
    exact hp _ _ _ _ hv (by first | with_reducible rfl | simp only [zl, iz_add, iz_sub, iz_mul, iz_neg]) (by first | with_reducible rfl | simp only [zl, iz_add, iz_sub, iz_mul, iz_neg])
  · have hv := hv.2 (fun z9 => c9 (q_4.mpr z9))
    obtain ⟨hi_5, hv⟩ := hv
    refine ⟨z_in (by first | with_reducible rfl | simp only [zl, iz_add, iz_sub, iz_mul, iz_neg]) hi_5 (by decide), ?_⟩
    have e_6 : ((az m_goes) (((61 * (iz a1)) + (iz a2))).toNatClampNeg) = iz (m_goes (((61 * a1) + a2)).toNat) := z_at (by first | with_reducible rfl | simp only [zl, iz_add, iz_sub, iz_mul, iz_neg]) (by first | with_reducible rfl | simp only [zl, iz_add, iz_sub, iz_mul, iz_neg]) hi_5 (by decide)
    try rw [e_6]
    obtain ⟨hi_7, hv⟩ := hv
    refine ⟨z_in (by first | with_reducible rfl | simp only [zl, iz_add, iz_sub, iz_mul, iz_neg]) hi_7 (by decide), ?_⟩
    have e_8 : ((az m_state) ((38 + (iz a1))).toNatClampNeg) = iz (m_state ((38 + a1)).toNat) := z_at (by first | with_reducible rfl | simp only [zl, iz_add, iz_sub, iz_mul, iz_neg]) (by first | with_reducible rfl | simp only [zl, iz_add, iz_sub, iz_mul, iz_neg]) hi_7 (by decide)
    try rw [e_8]
    obtain ⟨hs_9, hv⟩ := hv
    have q_10 := z_le (x := (iz (m_state ((38 + a1)).toNat))) (a := (m_state ((38 + a1)).toNat)) (by first | with_reducible rfl | simp only [zl, iz_add, iz_sub, iz_mul, iz_neg]) (y := (iz (m_goes (((61 * a1) + a2)).toNat))) (b := (m_goes (((61 * a1) + a2)).toNat)) (by first | with_reducible rfl | simp only [zl, iz_add, iz_sub, iz_mul, iz_neg]) hs_9.1 hs_9.2
    refine ⟨fun c9 => ?_, fun c9 => ?_⟩
    · have hv := hv.1 (q_10.mp c9)
      exact hp _ _ _ _ hv (by first | with_reducible rfl | simp only [zl, iz_add, iz_sub, iz_mul, iz_neg]) (by first | with_reducible rfl | simp only [zl, iz_add, iz_sub, iz_mul, iz_neg])
    · have hv := hv.2 (fun z9 => c9 (q_10.mpr z9))
      obtain ⟨hi_11, hv⟩ := hv
      refine ⟨z_in (by first | with_reducible rfl | simp only [zl, iz_add, iz_sub, iz_mul, iz_neg]) hi_11 (by decide), ?_⟩
      have e_12 : ((az m_state) ((48 + (iz a1))).toNatClampNeg) = iz (m_state ((48 + a1)).toNat) := z_at (by first | with_reducible rfl | simp only [zl, iz_add, iz_sub, iz_mul, iz_neg]) (by first | with_reducible rfl | simp only [zl, iz_add, iz_sub, iz_mul, iz_neg]) hi_11 (by decide)
      try rw [e_12]
      obtain ⟨hs_13, hv⟩ := hv
      have q_14 := z_lt (x := (iz m_until)) (a := m_until) (by first | with_reducible rfl | simp only [zl, iz_add, iz_sub, iz_mul, iz_neg]) (y := ((iz a2) + (iz (m_state ((48 + a1)).toNat)))) (b := (a2 + (m_state ((48 + a1)).toNat))) (by first | with_reducible rfl | simp only [zl, iz_add, iz_sub, iz_mul, iz_neg]) hs_13.1 hs_13.2
      refine ⟨fun c9 => ?_, fun c9 => ?_⟩
      · have hv := hv.1 (q_14.mp c9)
        exact hp _ _ _ _ hv (by first | with_reducible rfl | simp only [zl, iz_add, iz_sub, iz_mul, iz_neg]) (by first | with_reducible rfl | simp only [zl, iz_add, iz_sub, iz_mul, iz_neg])
      · have hv := hv.2 (fun z9 => c9 (q_14.mpr z9))
        exact hp _ _ _ _ hv (by first | with_reducible rfl | simp only [zl, iz_add, iz_sub, iz_mul, iz_neg]) (by first | with_reducible rfl | simp only [zl, iz_add, iz_sub, iz_mul, iz_neg])

def iv_X5_byPassage (a1 : Int) (a2 : Int) (m_state : (Nat → Int)) (m_goes : (Nat → Int)) (m_cameFrom : (Nat → Int)) (m_cameBy : (Nat → Int)) (m_wave : (Nat → Int)) (m_waved : Int) (m_goal : Int) (m_goalBy : Int) (m_until : Int) (post : ((Nat → Int) × (Nat → Int) × (Nat → Int) × Int × Int × Int) → Prop) : Prop :=
  ((zn a2) ∧ (∀ x3_3 : Int, x3_3 = (a2 / 61) → ((zn a2) ∧ (∀ x4_7 : Int, x4_7 = (a2 - a2 / 61 * 61) → ((0 ≤ (18 + a1) ∧ (18 + a1) < 69) ∧ ((sm (m_state ((18 + a1)).toNat) ∧ sm x3_3) ∧ ((¬ (m_state ((18 + a1)).toNat) = x3_3 → ((0 ≤ (48 + a1) ∧ (48 + a1) < 69) ∧ (∀ x5_15 : Int, x5_15 = (x4_7 - (m_state ((48 + a1)).toNat)) → ((0 ≤ (28 + a1) ∧ (28 + a1) < 69) ∧ ((sm (m_state ((28 + a1)).toNat) ∧ sm x3_3) ∧ ((¬ (m_state ((28 + a1)).toNat) = x3_3 → post (m_cameFrom, m_cameBy, m_wave, m_waved, m_goal, m_goalBy)) ∧ ((m_state ((28 + a1)).toNat) = x3_3 → ((sm x5_15 ∧ sm 0) ∧ ((x5_15 < 0 → post (m_cameFrom, m_cameBy, m_wave, m_waved, m_goal, m_goalBy)) ∧ (¬ x5_15 < 0 → ((0 ≤ ((61 * a1) + x5_15) ∧ ((61 * a1) + x5_15) < 610) ∧ ((sm (m_goes (((61 * a1) + x5_15)).toNat) ∧ sm 0) ∧ (((m_goes (((61 * a1) + x5_15)).toNat) ≤ 0 → post (m_cameFrom, m_cameBy, m_wave, m_waved, m_goal, m_goalBy)) ∧ (¬ (m_goes (((61 * a1) + x5_15)).toNat) ≤ 0 → ((0 ≤ (18 + a1) ∧ (18 + a1) < 69) ∧ (iv_X5_come ((61 * (m_state ((18 + a1)).toNat)) + x5_15) a2 (30 + a1) m_cameFrom m_cameBy m_wave m_waved (fun (u_29 : (Nat → Int) × (Nat → Int) × (Nat → Int) × Int) => post (u_29.1, u_29.2.1, u_29.2.2.1, u_29.2.2.2, m_goal, m_goalBy)))))))))))))))))) ∧ ((m_state ((18 + a1)).toNat) = x3_3 → (iv_X5_canGo a1 x4_7 m_state m_goes m_until (fun (r_35 : Int) (u_34 : Unit) => ((sm r_35 ∧ sm 0) ∧ ((r_35 = 0 → ((0 ≤ (48 + a1) ∧ (48 + a1) < 69) ∧ (∀ x5_44 : Int, x5_44 = (x4_7 - (m_state ((48 + a1)).toNat)) → ((0 ≤ (28 + a1) ∧ (28 + a1) < 69) ∧ ((sm (m_state ((28 + a1)).toNat) ∧ sm x3_3) ∧ ((¬ (m_state ((28 + a1)).toNat) = x3_3 → post (m_cameFrom, m_cameBy, m_wave, m_waved, m_goal, m_goalBy)) ∧ ((m_state ((28 + a1)).toNat) = x3_3 → ((sm x5_44 ∧ sm 0) ∧ ((x5_44 < 0 → post (m_cameFrom, m_cameBy, m_wave, m_waved, m_goal, m_goalBy)) ∧ (¬ x5_44 < 0 → ((0 ≤ ((61 * a1) + x5_44) ∧ ((61 * a1) + x5_44) < 610) ∧ ((sm (m_goes (((61 * a1) + x5_44)).toNat) ∧ sm 0) ∧ (((m_goes (((61 * a1) + x5_44)).toNat) ≤ 0 → post (m_cameFrom, m_cameBy, m_wave, m_waved, m_goal, m_goalBy)) ∧ (¬ (m_goes (((61 * a1) + x5_44)).toNat) ≤ 0 → ((0 ≤ (18 + a1) ∧ (18 + a1) < 69) ∧ (iv_X5_come ((61 * (m_state ((18 + a1)).toNat)) + x5_44) a2 (30 + a1) m_cameFrom m_cameBy m_wave m_waved (fun (u_58 : (Nat → Int) × (Nat → Int) × (Nat → Int) × Int) => post (u_58.1, u_58.2.1, u_58.2.2.1, u_58.2.2.2, m_goal, m_goalBy)))))))))))))))))) ∧ (¬ r_35 = 0 → ((0 ≤ (28 + a1) ∧ (28 + a1) < 69) ∧ (iv_X5_isSafe (m_state ((28 + a1)).toNat) m_state (fun (r_66 : Int) (u_65 : Unit) => ((sm r_66 ∧ sm 0) ∧ ((r_66 = 0 → ((0 ≤ (28 + a1) ∧ (28 + a1) < 69) ∧ ((0 ≤ (48 + a1) ∧ (48 + a1) < 69) ∧ (iv_X5_come (((61 * (m_state ((28 + a1)).toNat)) + x4_7) + (m_state ((48 + a1)).toNat)) a2 (10 + a1) m_cameFrom m_cameBy m_wave m_waved (fun (u_77 : (Nat → Int) × (Nat → Int) × (Nat → Int) × Int) => ((0 ≤ (48 + a1) ∧ (48 + a1) < 69) ∧ (∀ x5_84 : Int, x5_84 = (x4_7 - (m_state ((48 + a1)).toNat)) → ((0 ≤ (28 + a1) ∧ (28 + a1) < 69) ∧ ((sm (m_state ((28 + a1)).toNat) ∧ sm x3_3) ∧ ((¬ (m_state ((28 + a1)).toNat) = x3_3 → post (u_77.1, u_77.2.1, u_77.2.2.1, u_77.2.2.2, m_goal, m_goalBy)) ∧ ((m_state ((28 + a1)).toNat) = x3_3 → ((sm x5_84 ∧ sm 0) ∧ ((x5_84 < 0 → post (u_77.1, u_77.2.1, u_77.2.2.1, u_77.2.2.2, m_goal, m_goalBy)) ∧ (¬ x5_84 < 0 → ((0 ≤ ((61 * a1) + x5_84) ∧ ((61 * a1) + x5_84) < 610) ∧ ((sm (m_goes (((61 * a1) + x5_84)).toNat) ∧ sm 0) ∧ (((m_goes (((61 * a1) + x5_84)).toNat) ≤ 0 → post (u_77.1, u_77.2.1, u_77.2.2.1, u_77.2.2.2, m_goal, m_goalBy)) ∧ (¬ (m_goes (((61 * a1) + x5_84)).toNat) ≤ 0 → ((0 ≤ (18 + a1) ∧ (18 + a1) < 69) ∧ (iv_X5_come ((61 * (m_state ((18 + a1)).toNat)) + x5_84) a2 (30 + a1) u_77.1 u_77.2.1 u_77.2.2.1 u_77.2.2.2 (fun (u_98 : (Nat → Int) × (Nat → Int) × (Nat → Int) × Int) => post (u_98.1, u_98.2.1, u_98.2.2.1, u_98.2.2.2, m_goal, m_goalBy)))))))))))))))))))))) ∧ (¬ r_66 = 0 → ((0 ≤ (48 + a1) ∧ (48 + a1) < 69) ∧ (∀ x5_105 : Int, x5_105 = (x4_7 - (m_state ((48 + a1)).toNat)) → ((0 ≤ (28 + a1) ∧ (28 + a1) < 69) ∧ ((sm (m_state ((28 + a1)).toNat) ∧ sm x3_3) ∧ ((¬ (m_state ((28 + a1)).toNat) = x3_3 → post (m_cameFrom, m_cameBy, m_wave, m_waved, a2, a1)) ∧ ((m_state ((28 + a1)).toNat) = x3_3 → ((sm x5_105 ∧ sm 0) ∧ ((x5_105 < 0 → post (m_cameFrom, m_cameBy, m_wave, m_waved, a2, a1)) ∧ (¬ x5_105 < 0 → ((0 ≤ ((61 * a1) + x5_105) ∧ ((61 * a1) + x5_105) < 610) ∧ ((sm (m_goes (((61 * a1) + x5_105)).toNat) ∧ sm 0) ∧ (((m_goes (((61 * a1) + x5_105)).toNat) ≤ 0 → post (m_cameFrom, m_cameBy, m_wave, m_waved, a2, a1)) ∧ (¬ (m_goes (((61 * a1) + x5_105)).toNat) ≤ 0 → ((0 ≤ (18 + a1) ∧ (18 + a1) < 69) ∧ (iv_X5_come ((61 * (m_state ((18 + a1)).toNat)) + x5_105) a2 (30 + a1) m_cameFrom m_cameBy m_wave m_waved (fun (u_119 : (Nat → Int) × (Nat → Int) × (Nat → Int) × Int) => post (u_119.1, u_119.2.1, u_119.2.2.1, u_119.2.2.2, a2, a1))))))))))))))))))))))))))))))))))))

set_option maxHeartbeats 4000000 in
theorem lift_X5_byPassage {a1' : Int32} {a1 : Int} {a2' : Int32} {a2 : Int} {m_state' : (Nat → Int32)} {m_state : (Nat → Int)} {m_goes' : (Nat → Int32)} {m_goes : (Nat → Int)} {m_cameFrom' : (Nat → Int32)} {m_cameFrom : (Nat → Int)} {m_cameBy' : (Nat → Int32)} {m_cameBy : (Nat → Int)} {m_wave' : (Nat → Int32)} {m_wave : (Nat → Int)} {m_waved' : Int32} {m_waved : Int} {m_goal' : Int32} {m_goal : Int} {m_goalBy' : Int32} {m_goalBy : Int} {m_until' : Int32} {m_until : Int} (e_a1 : a1' = iz a1) (e_a2 : a2' = iz a2) (e_m_state : m_state' = az m_state) (e_m_goes : m_goes' = az m_goes) (e_m_cameFrom : m_cameFrom' = az m_cameFrom) (e_m_cameBy : m_cameBy' = az m_cameBy) (e_m_wave : m_wave' = az m_wave) (e_m_waved : m_waved' = iz m_waved) (e_m_goal : m_goal' = iz m_goal) (e_m_goalBy : m_goalBy' = iz m_goalBy) (e_m_until : m_until' = iz m_until) {post0 : ((Nat → Int32) × (Nat → Int32) × (Nat → Int32) × Int32 × Int32 × Int32) → Prop} {post : ((Nat → Int) × (Nat → Int) × (Nat → Int) × Int × Int × Int) → Prop} (hv : iv_X5_byPassage a1 a2 m_state m_goes m_cameFrom m_cameBy m_wave m_waved m_goal m_goalBy m_until post) (hp : ∀ (u : (Nat → Int) × (Nat → Int) × (Nat → Int) × Int × Int × Int) (y : (Nat → Int32) × (Nat → Int32) × (Nat → Int32) × Int32 × Int32 × Int32), post u → y = (az u.1, az u.2.1, az u.2.2.1, iz u.2.2.2.1, iz u.2.2.2.2.1, iz u.2.2.2.2.2) → post0 y) : vc_X5_byPassage a1' a2' m_state' m_goes' m_cameFrom' m_cameBy' m_wave' m_waved' m_goal' m_goalBy' m_until' post0 := by
  subst e_a1
  subst e_a2
  subst e_m_state
  subst e_m_goes
  subst e_m_cameFrom
  subst e_m_cameBy
  subst e_m_wave
  subst e_m_waved
  subst e_m_goal
  subst e_m_goalBy
  subst e_m_until
  rw [iv_X5_byPassage] at hv
  rw [vc_X5_byPassage]
  obtain ⟨hc_1, hv⟩ := hv
  have e_2 : ((iz a2) / 61) = iz (a2 / 61) := z_div (by first | with_reducible rfl | simp only [zl, iz_add, iz_sub, iz_mul, iz_neg]) hc_1 (by decide) (by decide)
  try rw [e_2]
  intro y_4 hy_4
  obtain ⟨x3_3, hx3_3⟩ : ∃ z : Int, z = (a2 / 61) := ⟨_, rfl⟩
  have hv := hv x3_3 hx3_3
  have ey_4 : y_4 = iz x3_3 := by rw [hy_4, hx3_3]; try exact (by first | with_reducible rfl | simp only [zl, iz_add, iz_sub, iz_mul, iz_neg])
  subst ey_4
  obtain ⟨hc_5, hv⟩ := hv
  have e_6 : ((iz a2) - (iz a2) / 61 * 61) = iz (a2 - a2 / 61 * 61) := z_rem (by first | with_reducible rfl | simp only [zl, iz_add, iz_sub, iz_mul, iz_neg]) hc_5 (by decide) (by decide)
  try rw [e_6]
  intro y_8 hy_8
  obtain ⟨x4_7, hx4_7⟩ : ∃ z : Int, z = (a2 - a2 / 61 * 61) := ⟨_, rfl⟩
  have hv := hv x4_7 hx4_7
  have ey_8 : y_8 = iz x4_7 := by rw [hy_8, hx4_7]; try exact (by first | with_reducible rfl | simp only [zl, iz_add, iz_sub, iz_mul, iz_neg])
  subst ey_8
  obtain ⟨hi_9, hv⟩ := hv
  refine ⟨z_in (by first | with_reducible rfl | simp only [zl, iz_add, iz_sub, iz_mul, iz_neg]) hi_9 (by decide), ?_⟩
  have e_10 : ((az m_state) ((18 + (iz a1))).toNatClampNeg) = iz (m_state ((18 + a1)).toNat) := z_at (by first | with_reducible rfl | simp only [zl, iz_add, iz_sub, iz_mul, iz_neg]) (by first | with_reducible rfl | simp only [zl, iz_add, iz_sub, iz_mul, iz_neg]) hi_9 (by decide)
  try rw [e_10]
  obtain ⟨hs_11, hv⟩ := hv
  have q_12 := z_eq (x := (iz (m_state ((18 + a1)).toNat))) (a := (m_state ((18 + a1)).toNat)) (by first | with_reducible rfl | simp only [zl, iz_add, iz_sub, iz_mul, iz_neg]) (y := (iz x3_3)) (b := x3_3) (by first | with_reducible rfl | simp only [zl, iz_add, iz_sub, iz_mul, iz_neg]) hs_11.1 hs_11.2
  refine ⟨fun c9 => ?_, fun c9 => ?_⟩
  · have hv := hv.1 (fun z9 => c9 (q_12.mpr z9))
    obtain ⟨hi_13, hv⟩ := hv
    refine ⟨z_in (by first | with_reducible rfl | simp only [zl, iz_add, iz_sub, iz_mul, iz_neg]) hi_13 (by decide), ?_⟩
    have e_14 : ((az m_state) ((48 + (iz a1))).toNatClampNeg) = iz (m_state ((48 + a1)).toNat) := z_at (by first | with_reducible rfl | simp only [zl, iz_add, iz_sub, iz_mul, iz_neg]) (by first | with_reducible rfl | simp only [zl, iz_add, iz_sub, iz_mul, iz_neg]) hi_13 (by decide)
    try rw [e_14]
    intro y_16 hy_16
    obtain ⟨x5_15, hx5_15⟩ : ∃ z : Int, z = (x4_7 - (m_state ((48 + a1)).toNat)) := ⟨_, rfl⟩
    have hv := hv x5_15 hx5_15
    have ey_16 : y_16 = iz x5_15 := by rw [hy_16, hx5_15]; try exact (by first | with_reducible rfl | simp only [zl, iz_add, iz_sub, iz_mul, iz_neg])
    subst ey_16
    obtain ⟨hi_17, hv⟩ := hv
    refine ⟨z_in (by first | with_reducible rfl | simp only [zl, iz_add, iz_sub, iz_mul, iz_neg]) hi_17 (by decide), ?_⟩
    have e_18 : ((az m_state) ((28 + (iz a1))).toNatClampNeg) = iz (m_state ((28 + a1)).toNat) := z_at (by first | with_reducible rfl | simp only [zl, iz_add, iz_sub, iz_mul, iz_neg]) (by first | with_reducible rfl | simp only [zl, iz_add, iz_sub, iz_mul, iz_neg]) hi_17 (by decide)
    try rw [e_18]
    obtain ⟨hs_19, hv⟩ := hv
    have q_20 := z_eq (x := (iz (m_state ((28 + a1)).toNat))) (a := (m_state ((28 + a1)).toNat)) (by first | with_reducible rfl | simp only [zl, iz_add, iz_sub, iz_mul, iz_neg]) (y := (iz x3_3)) (b := x3_3) (by first | with_reducible rfl | simp only [zl, iz_add, iz_sub, iz_mul, iz_neg]) hs_19.1 hs_19.2
    refine ⟨fun c9 => ?_, fun c9 => ?_⟩
    · have hv := hv.1 (fun z9 => c9 (q_20.mpr z9))
      exact hp _ _ hv (by first | with_reducible rfl | simp only [zl, iz_add, iz_sub, iz_mul, iz_neg])
    · have hv := hv.2 (q_20.mp c9)
      obtain ⟨hs_21, hv⟩ := hv
      have q_22 := z_lt (x := (iz x5_15)) (a := x5_15) (by first | with_reducible rfl | simp only [zl, iz_add, iz_sub, iz_mul, iz_neg]) (y := 0) (b := 0) (by first | with_reducible rfl | simp only [zl, iz_add, iz_sub, iz_mul, iz_neg]) hs_21.1 hs_21.2
      refine ⟨fun c9 => ?_, fun c9 => ?_⟩
      · have hv := hv.1 (q_22.mp c9)
        exact hp _ _ hv (by first | with_reducible rfl | simp only [zl, iz_add, iz_sub, iz_mul, iz_neg])
      · have hv := hv.2 (fun z9 => c9 (q_22.mpr z9))
        obtain ⟨hi_23, hv⟩ := hv
        refine ⟨z_in (by first | with_reducible rfl | simp only [zl, iz_add, iz_sub, iz_mul, iz_neg]) hi_23 (by decide), ?_⟩
        have e_24 : ((az m_goes) (((61 * (iz a1)) + (iz x5_15))).toNatClampNeg) = iz (m_goes (((61 * a1) + x5_15)).toNat) := z_at (by first | with_reducible rfl | simp only [zl, iz_add, iz_sub, iz_mul, iz_neg]) (by first | with_reducible rfl | simp only [zl, iz_add, iz_sub, iz_mul, iz_neg]) hi_23 (by decide)
        try rw [e_24]
        obtain ⟨hs_25, hv⟩ := hv
        have q_26 := z_le (x := (iz (m_goes (((61 * a1) + x5_15)).toNat))) (a := (m_goes (((61 * a1) + x5_15)).toNat)) (by first | with_reducible rfl | simp only [zl, iz_add, iz_sub, iz_mul, iz_neg]) (y := 0) (b := 0) (by first | with_reducible rfl | simp only [zl, iz_add, iz_sub, iz_mul, iz_neg]) hs_25.1 hs_25.2
        refine ⟨fun c9 => ?_, fun c9 => ?_⟩
        · have hv := hv.1 (q_26.mp c9)
          exact hp _ _ hv (by first | with_reducible rfl | simp only [zl, iz_add, iz_sub, iz_mul, iz_neg])
        · have hv := hv.2 (fun z9 => c9 (q_26.mpr z9))
          obtain ⟨hi_27, hv⟩ := hv
          refine ⟨z_in (by first | with_reducible rfl | simp only [zl, iz_add, iz_sub, iz_mul, iz_neg]) hi_27 (by decide), ?_⟩
          have e_28 : ((az m_state) ((18 + (iz a1))).toNatClampNeg) = iz (m_state ((18 + a1)).toNat) := z_at (by first | with_reducible rfl | simp only [zl, iz_add, iz_sub, iz_mul, iz_neg]) (by first | with_reducible rfl | simp only [zl, iz_add, iz_sub, iz_mul, iz_neg]) hi_27 (by decide)
          try rw [e_28]
          refine lift_X5_come (by first | with_reducible rfl | simp only [zl, iz_add, iz_sub, iz_mul, iz_neg]) (by first | with_reducible rfl | simp only [zl, iz_add, iz_sub, iz_mul, iz_neg]) (by first | with_reducible rfl | simp only [zl, iz_add, iz_sub, iz_mul, iz_neg]) (by first | with_reducible rfl | simp only [zl, iz_add, iz_sub, iz_mul, iz_neg]) (by first | with_reducible rfl | simp only [zl, iz_add, iz_sub, iz_mul, iz_neg]) (by first | with_reducible rfl | simp only [zl, iz_add, iz_sub, iz_mul, iz_neg]) (by first | with_reducible rfl | simp only [zl, iz_add, iz_sub, iz_mul, iz_neg]) hv (fun u_29 y_31 hv eu_33 => ?_)
          subst eu_33
          try dsimp only
          exact hp _ _ hv (by first | with_reducible rfl | simp only [zl, iz_add, iz_sub, iz_mul, iz_neg])
  · have hv := hv.2 (q_12.mp c9)
    refine lift_X5_canGo (by first | with_reducible rfl | simp only [zl, iz_add, iz_sub, iz_mul, iz_neg]) (by first | with_reducible rfl | simp only [zl, iz_add, iz_sub, iz_mul, iz_neg]) (by first | with_reducible rfl | simp only [zl, iz_add, iz_sub, iz_mul, iz_neg]) (by first | with_reducible rfl | simp only [zl, iz_add, iz_sub, iz_mul, iz_neg]) (by first | with_reducible rfl | simp only [zl, iz_add, iz_sub, iz_mul, iz_neg]) hv (fun r_35 u_34 y_36 y_37 hv er_38 eu_39 => ?_)
    subst er_38; subst eu_39
    try dsimp only
    obtain ⟨hs_40, hv⟩ := hv
    have q_41 := z_eq (x := (iz r_35)) (a := r_35) (by first | with_reducible rfl | simp only [zl, iz_add, iz_sub, iz_mul, iz_neg]) (y := 0) (b := 0) (by first | with_reducible rfl | simp only [zl, iz_add, iz_sub, iz_mul, iz_neg]) hs_40.1 hs_40.2
    refine ⟨fun c9 => ?_, fun c9 => ?_⟩
    · have hv := hv.1 (q_41.mp c9)
      obtain ⟨hi_42, hv⟩ := hv
      refine ⟨z_in (by first | with_reducible rfl | simp only [zl, iz_add, iz_sub, iz_mul, iz_neg]) hi_42 (by decide), ?_⟩
      have e_43 : ((az m_state) ((48 + (iz a1))).toNatClampNeg) = iz (m_state ((48 + a1)).toNat) := z_at (by first | with_reducible rfl | simp only [zl, iz_add, iz_sub, iz_mul, iz_neg]) (by first | with_reducible rfl | simp only [zl, iz_add, iz_sub, iz_mul, iz_neg]) hi_42 (by decide)
      try rw [e_43]
      intro y_45 hy_45
      obtain ⟨x5_44, hx5_44⟩ : ∃ z : Int, z = (x4_7 - (m_state ((48 + a1)).toNat)) := ⟨_, rfl⟩
      have hv := hv x5_44 hx5_44
      have ey_45 : y_45 = iz x5_44 := by rw [hy_45, hx5_44]; try exact (by first | with_reducible rfl | simp only [zl, iz_add, iz_sub, iz_mul, iz_neg])
      subst ey_45
      obtain ⟨hi_46, hv⟩ := hv
      refine ⟨z_in (by first | with_reducible rfl | simp only [zl, iz_add, iz_sub, iz_mul, iz_neg]) hi_46 (by decide), ?_⟩
      have e_47 : ((az m_state) ((28 + (iz a1))).toNatClampNeg) = iz (m_state ((28 + a1)).toNat) := z_at (by first | with_reducible rfl | simp only [zl, iz_add, iz_sub, iz_mul, iz_neg]) (by first | with_reducible rfl | simp only [zl, iz_add, iz_sub, iz_mul, iz_neg]) hi_46 (by decide)
      try rw [e_47]
      obtain ⟨hs_48, hv⟩ := hv
      have q_49 := z_eq (x := (iz (m_state ((28 + a1)).toNat))) (a := (m_state ((28 + a1)).toNat)) (by first | with_reducible rfl | simp only [zl, iz_add, iz_sub, iz_mul, iz_neg]) (y := (iz x3_3)) (b := x3_3) (by first | with_reducible rfl | simp only [zl, iz_add, iz_sub, iz_mul, iz_neg]) hs_48.1 hs_48.2
      refine ⟨fun c9 => ?_, fun c9 => ?_⟩
      · have hv := hv.1 (fun z9 => c9 (q_49.mpr z9))
        exact hp _ _ hv (by first | with_reducible rfl | simp only [zl, iz_add, iz_sub, iz_mul, iz_neg])
      · have hv := hv.2 (q_49.mp c9)
        obtain ⟨hs_50, hv⟩ := hv
        have q_51 := z_lt (x := (iz x5_44)) (a := x5_44) (by first | with_reducible rfl | simp only [zl, iz_add, iz_sub, iz_mul, iz_neg]) (y := 0) (b := 0) (by first | with_reducible rfl | simp only [zl, iz_add, iz_sub, iz_mul, iz_neg]) hs_50.1 hs_50.2
        refine ⟨fun c9 => ?_, fun c9 => ?_⟩
        · have hv := hv.1 (q_51.mp c9)
          exact hp _ _ hv (by first | with_reducible rfl | simp only [zl, iz_add, iz_sub, iz_mul, iz_neg])
        · have hv := hv.2 (fun z9 => c9 (q_51.mpr z9))
          obtain ⟨hi_52, hv⟩ := hv
          refine ⟨z_in (by first | with_reducible rfl | simp only [zl, iz_add, iz_sub, iz_mul, iz_neg]) hi_52 (by decide), ?_⟩
          have e_53 : ((az m_goes) (((61 * (iz a1)) + (iz x5_44))).toNatClampNeg) = iz (m_goes (((61 * a1) + x5_44)).toNat) := z_at (by first | with_reducible rfl | simp only [zl, iz_add, iz_sub, iz_mul, iz_neg]) (by first | with_reducible rfl | simp only [zl, iz_add, iz_sub, iz_mul, iz_neg]) hi_52 (by decide)
          try rw [e_53]
          obtain ⟨hs_54, hv⟩ := hv
          have q_55 := z_le (x := (iz (m_goes (((61 * a1) + x5_44)).toNat))) (a := (m_goes (((61 * a1) + x5_44)).toNat)) (by first | with_reducible rfl | simp only [zl, iz_add, iz_sub, iz_mul, iz_neg]) (y := 0) (b := 0) (by first | with_reducible rfl | simp only [zl, iz_add, iz_sub, iz_mul, iz_neg]) hs_54.1 hs_54.2
          refine ⟨fun c9 => ?_, fun c9 => ?_⟩
          · have hv := hv.1 (q_55.mp c9)
            exact hp _ _ hv (by first | with_reducible rfl | simp only [zl, iz_add, iz_sub, iz_mul, iz_neg])
          · have hv := hv.2 (fun z9 => c9 (q_55.mpr z9))
            obtain ⟨hi_56, hv⟩ := hv
            refine ⟨z_in (by first | with_reducible rfl | simp only [zl, iz_add, iz_sub, iz_mul, iz_neg]) hi_56 (by decide), ?_⟩
            have e_57 : ((az m_state) ((18 + (iz a1))).toNatClampNeg) = iz (m_state ((18 + a1)).toNat) := z_at (by first | with_reducible rfl | simp only [zl, iz_add, iz_sub, iz_mul, iz_neg]) (by first | with_reducible rfl | simp only [zl, iz_add, iz_sub, iz_mul, iz_neg]) hi_56 (by decide)
            try rw [e_57]
            refine lift_X5_come (by first | with_reducible rfl | simp only [zl, iz_add, iz_sub, iz_mul, iz_neg]) (by first | with_reducible rfl | simp only [zl, iz_add, iz_sub, iz_mul, iz_neg]) (by first | with_reducible rfl | simp only [zl, iz_add, iz_sub, iz_mul, iz_neg]) (by first | with_reducible rfl | simp only [zl, iz_add, iz_sub, iz_mul, iz_neg]) (by first | with_reducible rfl | simp only [zl, iz_add, iz_sub, iz_mul, iz_neg]) (by first | with_reducible rfl | simp only [zl, iz_add, iz_sub, iz_mul, iz_neg]) (by first | with_reducible rfl | simp only [zl, iz_add, iz_sub, iz_mul, iz_neg]) hv (fun u_58 y_60 hv eu_62 => ?_)
            subst eu_62
            try dsimp only
            exact hp _ _ hv (by first | with_reducible rfl | simp only [zl, iz_add, iz_sub, iz_mul, iz_neg])
    · have hv := hv.2 (fun z9 => c9 (q_41.mpr z9))
      obtain ⟨hi_63, hv⟩ := hv
      refine ⟨z_in (by first | with_reducible rfl | simp only [zl, iz_add, iz_sub, iz_mul, iz_neg]) hi_63 (by decide), ?_⟩
      have e_64 : ((az m_state) ((28 + (iz a1))).toNatClampNeg) = iz (m_state ((28 + a1)).toNat) := z_at (by first | with_reducible rfl | simp only [zl, iz_add, iz_sub, iz_mul, iz_neg]) (by first | with_reducible rfl | simp only [zl, iz_add, iz_sub, iz_mul, iz_neg]) hi_63 (by decide)
      try rw [e_64]
      refine lift_X5_isSafe (by first | with_reducible rfl | simp only [zl, iz_add, iz_sub, iz_mul, iz_neg]) (by first | with_reducible rfl | simp only [zl, iz_add, iz_sub, iz_mul, iz_neg]) hv (fun r_66 u_65 y_67 y_68 hv er_69 eu_70 => ?_)
      subst er_69; subst eu_70
      try dsimp only
      obtain ⟨hs_71, hv⟩ := hv
      have q_72 := z_eq (x := (iz r_66)) (a := r_66) (by first | with_reducible rfl | simp only [zl, iz_add, iz_sub, iz_mul, iz_neg]) (y := 0) (b := 0) (by first | with_reducible rfl | simp only [zl, iz_add, iz_sub, iz_mul, iz_neg]) hs_71.1 hs_71.2
      refine ⟨fun c9 => ?_, fun c9 => ?_⟩
      · have hv := hv.1 (q_72.mp c9)
        obtain ⟨hi_73, hv⟩ := hv
        refine ⟨z_in (by first | with_reducible rfl | simp only [zl, iz_add, iz_sub, iz_mul, iz_neg]) hi_73 (by decide), ?_⟩
        have e_74 : ((az m_state) ((28 + (iz a1))).toNatClampNeg) = iz (m_state ((28 + a1)).toNat) := z_at (by first | with_reducible rfl | simp only [zl, iz_add, iz_sub, iz_mul, iz_neg]) (by first | with_reducible rfl | simp only [zl, iz_add, iz_sub, iz_mul, iz_neg]) hi_73 (by decide)
        try rw [e_74]
        obtain ⟨hi_75, hv⟩ := hv
        refine ⟨z_in (by first | with_reducible rfl | simp only [zl, iz_add, iz_sub, iz_mul, iz_neg]) hi_75 (by decide), ?_⟩
        have e_76 : ((az m_state) ((48 + (iz a1))).toNatClampNeg) = iz (m_state ((48 + a1)).toNat) := z_at (by first | with_reducible rfl | simp only [zl, iz_add, iz_sub, iz_mul, iz_neg]) (by first | with_reducible rfl | simp only [zl, iz_add, iz_sub, iz_mul, iz_neg]) hi_75 (by decide)
        try rw [e_76]
        refine lift_X5_come (by first | with_reducible rfl | simp only [zl, iz_add, iz_sub, iz_mul, iz_neg]) (by first | with_reducible rfl | simp only [zl, iz_add, iz_sub, iz_mul, iz_neg]) (by first | with_reducible rfl | simp only [zl, iz_add, iz_sub, iz_mul, iz_neg]) (by first | with_reducible rfl | simp only [zl, iz_add, iz_sub, iz_mul, iz_neg]) (by first | with_reducible rfl | simp only [zl, iz_add, iz_sub, iz_mul, iz_neg]) (by first | with_reducible rfl | simp only [zl, iz_add, iz_sub, iz_mul, iz_neg]) (by first | with_reducible rfl | simp only [zl, iz_add, iz_sub, iz_mul, iz_neg]) hv (fun u_77 y_79 hv eu_81 => ?_)
        subst eu_81
        try dsimp only
        obtain ⟨hi_82, hv⟩ := hv
        refine ⟨z_in (by first | with_reducible rfl | simp only [zl, iz_add, iz_sub, iz_mul, iz_neg]) hi_82 (by decide), ?_⟩
        have e_83 : ((az m_state) ((48 + (iz a1))).toNatClampNeg) = iz (m_state ((48 + a1)).toNat) := z_at (by first | with_reducible rfl | simp only [zl, iz_add, iz_sub, iz_mul, iz_neg]) (by first | with_reducible rfl | simp only [zl, iz_add, iz_sub, iz_mul, iz_neg]) hi_82 (by decide)
        try rw [e_83]
        intro y_85 hy_85
        obtain ⟨x5_84, hx5_84⟩ : ∃ z : Int, z = (x4_7 - (m_state ((48 + a1)).toNat)) := ⟨_, rfl⟩
        have hv := hv x5_84 hx5_84
        have ey_85 : y_85 = iz x5_84 := by rw [hy_85, hx5_84]; try exact (by first | with_reducible rfl | simp only [zl, iz_add, iz_sub, iz_mul, iz_neg])
        subst ey_85
        obtain ⟨hi_86, hv⟩ := hv
        refine ⟨z_in (by first | with_reducible rfl | simp only [zl, iz_add, iz_sub, iz_mul, iz_neg]) hi_86 (by decide), ?_⟩
        have e_87 : ((az m_state) ((28 + (iz a1))).toNatClampNeg) = iz (m_state ((28 + a1)).toNat) := z_at (by first | with_reducible rfl | simp only [zl, iz_add, iz_sub, iz_mul, iz_neg]) (by first | with_reducible rfl | simp only [zl, iz_add, iz_sub, iz_mul, iz_neg]) hi_86 (by decide)
        try rw [e_87]
        obtain ⟨hs_88, hv⟩ := hv
        have q_89 := z_eq (x := (iz (m_state ((28 + a1)).toNat))) (a := (m_state ((28 + a1)).toNat)) (by first | with_reducible rfl | simp only [zl, iz_add, iz_sub, iz_mul, iz_neg]) (y := (iz x3_3)) (b := x3_3) (by first | with_reducible rfl | simp only [zl, iz_add, iz_sub, iz_mul, iz_neg]) hs_88.1 hs_88.2
        refine ⟨fun c9 => ?_, fun c9 => ?_⟩
        · have hv := hv.1 (fun z9 => c9 (q_89.mpr z9))
          exact hp _ _ hv (by first | with_reducible rfl | simp only [zl, iz_add, iz_sub, iz_mul, iz_neg])
        · have hv := hv.2 (q_89.mp c9)
          obtain ⟨hs_90, hv⟩ := hv
          have q_91 := z_lt (x := (iz x5_84)) (a := x5_84) (by first | with_reducible rfl | simp only [zl, iz_add, iz_sub, iz_mul, iz_neg]) (y := 0) (b := 0) (by first | with_reducible rfl | simp only [zl, iz_add, iz_sub, iz_mul, iz_neg]) hs_90.1 hs_90.2
          refine ⟨fun c9 => ?_, fun c9 => ?_⟩
          · have hv := hv.1 (q_91.mp c9)
            exact hp _ _ hv (by first | with_reducible rfl | simp only [zl, iz_add, iz_sub, iz_mul, iz_neg])
          · have hv := hv.2 (fun z9 => c9 (q_91.mpr z9))
            obtain ⟨hi_92, hv⟩ := hv
            refine ⟨z_in (by first | with_reducible rfl | simp only [zl, iz_add, iz_sub, iz_mul, iz_neg]) hi_92 (by decide), ?_⟩
            have e_93 : ((az m_goes) (((61 * (iz a1)) + (iz x5_84))).toNatClampNeg) = iz (m_goes (((61 * a1) + x5_84)).toNat) := z_at (by first | with_reducible rfl | simp only [zl, iz_add, iz_sub, iz_mul, iz_neg]) (by first | with_reducible rfl | simp only [zl, iz_add, iz_sub, iz_mul, iz_neg]) hi_92 (by decide)
            try rw [e_93]
            obtain ⟨hs_94, hv⟩ := hv
            have q_95 := z_le (x := (iz (m_goes (((61 * a1) + x5_84)).toNat))) (a := (m_goes (((61 * a1) + x5_84)).toNat)) (by first | with_reducible rfl | simp only [zl, iz_add, iz_sub, iz_mul, iz_neg]) (y := 0) (b := 0) (by first | with_reducible rfl | simp only [zl, iz_add, iz_sub, iz_mul, iz_neg]) hs_94.1 hs_94.2
            refine ⟨fun c9 => ?_, fun c9 => ?_⟩
            · have hv := hv.1 (q_95.mp c9)
              exact hp _ _ hv (by first | with_reducible rfl | simp only [zl, iz_add, iz_sub, iz_mul, iz_neg])
            · have hv := hv.2 (fun z9 => c9 (q_95.mpr z9))
              obtain ⟨hi_96, hv⟩ := hv
              refine ⟨z_in (by first | with_reducible rfl | simp only [zl, iz_add, iz_sub, iz_mul, iz_neg]) hi_96 (by decide), ?_⟩
              have e_97 : ((az m_state) ((18 + (iz a1))).toNatClampNeg) = iz (m_state ((18 + a1)).toNat) := z_at (by first | with_reducible rfl | simp only [zl, iz_add, iz_sub, iz_mul, iz_neg]) (by first | with_reducible rfl | simp only [zl, iz_add, iz_sub, iz_mul, iz_neg]) hi_96 (by decide)
              try rw [e_97]
              refine lift_X5_come (by first | with_reducible rfl | simp only [zl, iz_add, iz_sub, iz_mul, iz_neg]) (by first | with_reducible rfl | simp only [zl, iz_add, iz_sub, iz_mul, iz_neg]) (by first | with_reducible rfl | simp only [zl, iz_add, iz_sub, iz_mul, iz_neg]) (by first | with_reducible rfl | simp only [zl, iz_add, iz_sub, iz_mul, iz_neg]) (by first | with_reducible rfl | simp only [zl, iz_add, iz_sub, iz_mul, iz_neg]) (by first | with_reducible rfl | simp only [zl, iz_add, iz_sub, iz_mul, iz_neg]) (by first | with_reducible rfl | simp only [zl, iz_add, iz_sub, iz_mul, iz_neg]) hv (fun u_98 y_100 hv eu_102 => ?_)
              subst eu_102
              try dsimp only
              exact hp _ _ hv (by first | with_reducible rfl | simp only [zl, iz_add, iz_sub, iz_mul, iz_neg])
      · have hv := hv.2 (fun z9 => c9 (q_72.mpr z9))
        obtain ⟨hi_103, hv⟩ := hv
        refine ⟨z_in (by first | with_reducible rfl | simp only [zl, iz_add, iz_sub, iz_mul, iz_neg]) hi_103 (by decide), ?_⟩
        have e_104 : ((az m_state) ((48 + (iz a1))).toNatClampNeg) = iz (m_state ((48 + a1)).toNat) := z_at (by first | with_reducible rfl | simp only [zl, iz_add, iz_sub, iz_mul, iz_neg]) (by first | with_reducible rfl | simp only [zl, iz_add, iz_sub, iz_mul, iz_neg]) hi_103 (by decide)
        try rw [e_104]
        intro y_106 hy_106
        obtain ⟨x5_105, hx5_105⟩ : ∃ z : Int, z = (x4_7 - (m_state ((48 + a1)).toNat)) := ⟨_, rfl⟩
        have hv := hv x5_105 hx5_105
        have ey_106 : y_106 = iz x5_105 := by rw [hy_106, hx5_105]; try exact (by first | with_reducible rfl | simp only [zl, iz_add, iz_sub, iz_mul, iz_neg])
        subst ey_106
        obtain ⟨hi_107, hv⟩ := hv
        refine ⟨z_in (by first | with_reducible rfl | simp only [zl, iz_add, iz_sub, iz_mul, iz_neg]) hi_107 (by decide), ?_⟩
        have e_108 : ((az m_state) ((28 + (iz a1))).toNatClampNeg) = iz (m_state ((28 + a1)).toNat) := z_at (by first | with_reducible rfl | simp only [zl, iz_add, iz_sub, iz_mul, iz_neg]) (by first | with_reducible rfl | simp only [zl, iz_add, iz_sub, iz_mul, iz_neg]) hi_107 (by decide)
        try rw [e_108]
        obtain ⟨hs_109, hv⟩ := hv
        have q_110 := z_eq (x := (iz (m_state ((28 + a1)).toNat))) (a := (m_state ((28 + a1)).toNat)) (by first | with_reducible rfl | simp only [zl, iz_add, iz_sub, iz_mul, iz_neg]) (y := (iz x3_3)) (b := x3_3) (by first | with_reducible rfl | simp only [zl, iz_add, iz_sub, iz_mul, iz_neg]) hs_109.1 hs_109.2
        refine ⟨fun c9 => ?_, fun c9 => ?_⟩
        · have hv := hv.1 (fun z9 => c9 (q_110.mpr z9))
          exact hp _ _ hv (by first | with_reducible rfl | simp only [zl, iz_add, iz_sub, iz_mul, iz_neg])
        · have hv := hv.2 (q_110.mp c9)
          obtain ⟨hs_111, hv⟩ := hv
          have q_112 := z_lt (x := (iz x5_105)) (a := x5_105) (by first | with_reducible rfl | simp only [zl, iz_add, iz_sub, iz_mul, iz_neg]) (y := 0) (b := 0) (by first | with_reducible rfl | simp only [zl, iz_add, iz_sub, iz_mul, iz_neg]) hs_111.1 hs_111.2
          refine ⟨fun c9 => ?_, fun c9 => ?_⟩
          · have hv := hv.1 (q_112.mp c9)
            exact hp _ _ hv (by first | with_reducible rfl | simp only [zl, iz_add, iz_sub, iz_mul, iz_neg])
          · have hv := hv.2 (fun z9 => c9 (q_112.mpr z9))
            obtain ⟨hi_113, hv⟩ := hv
            refine ⟨z_in (by first | with_reducible rfl | simp only [zl, iz_add, iz_sub, iz_mul, iz_neg]) hi_113 (by decide), ?_⟩
            have e_114 : ((az m_goes) (((61 * (iz a1)) + (iz x5_105))).toNatClampNeg) = iz (m_goes (((61 * a1) + x5_105)).toNat) := z_at (by first | with_reducible rfl | simp only [zl, iz_add, iz_sub, iz_mul, iz_neg]) (by first | with_reducible rfl | simp only [zl, iz_add, iz_sub, iz_mul, iz_neg]) hi_113 (by decide)
            try rw [e_114]
            obtain ⟨hs_115, hv⟩ := hv
            have q_116 := z_le (x := (iz (m_goes (((61 * a1) + x5_105)).toNat))) (a := (m_goes (((61 * a1) + x5_105)).toNat)) (by first | with_reducible rfl | simp only [zl, iz_add, iz_sub, iz_mul, iz_neg]) (y := 0) (b := 0) (by first | with_reducible rfl | simp only [zl, iz_add, iz_sub, iz_mul, iz_neg]) hs_115.1 hs_115.2
            refine ⟨fun c9 => ?_, fun c9 => ?_⟩
            · have hv := hv.1 (q_116.mp c9)
              exact hp _ _ hv (by first | with_reducible rfl | simp only [zl, iz_add, iz_sub, iz_mul, iz_neg])
            · have hv := hv.2 (fun z9 => c9 (q_116.mpr z9))
              obtain ⟨hi_117, hv⟩ := hv
              refine ⟨z_in (by first | with_reducible rfl | simp only [zl, iz_add, iz_sub, iz_mul, iz_neg]) hi_117 (by decide), ?_⟩
              have e_118 : ((az m_state) ((18 + (iz a1))).toNatClampNeg) = iz (m_state ((18 + a1)).toNat) := z_at (by first | with_reducible rfl | simp only [zl, iz_add, iz_sub, iz_mul, iz_neg]) (by first | with_reducible rfl | simp only [zl, iz_add, iz_sub, iz_mul, iz_neg]) hi_117 (by decide)
              try rw [e_118]
              refine lift_X5_come (by first | with_reducible rfl | simp only [zl, iz_add, iz_sub, iz_mul, iz_neg]) (by first | with_reducible rfl | simp only [zl, iz_add, iz_sub, iz_mul, iz_neg]) (by first | with_reducible rfl | simp only [zl, iz_add, iz_sub, iz_mul, iz_neg]) (by first | with_reducible rfl | simp only [zl, iz_add, iz_sub, iz_mul, iz_neg]) (by first | with_reducible rfl | simp only [zl, iz_add, iz_sub, iz_mul, iz_neg]) (by first | with_reducible rfl | simp only [zl, iz_add, iz_sub, iz_mul, iz_neg]) (by first | with_reducible rfl | simp only [zl, iz_add, iz_sub, iz_mul, iz_neg]) hv (fun u_119 y_121 hv eu_123 => ?_)
              subst eu_123
              try dsimp only
              exact hp _ _ hv (by first | with_reducible rfl | simp only [zl, iz_add, iz_sub, iz_mul, iz_neg])

def iv_X5_findWay_L30 (K : (Nat → Int) → (Nat → Int) → (Nat → Int) → Int → Int → Int → Prop) (b2 : Int) (m_state : (Nat → Int)) (m_goes : (Nat → Int)) (m_until : Int) : Nat → Int → (Nat → Int) → (Nat → Int) → (Nat → Int) → Int → Int → Int → Prop
  | 0, _, _, _, _, _, _, _ => False
  | n + 1, v3, m_cameFrom, m_cameBy, m_wave, m_waved, m_goal, m_goalBy =>
    (iv_X5_many m_state (fun (r_15 : Int) (u_14 : Unit) => ((sm r_15 ∧ sm v3) ∧ ((r_15 ≤ v3 → K m_cameFrom m_cameBy m_wave m_waved m_goal m_goalBy) ∧ (¬ r_15 ≤ v3 → ((sm 0 ∧ sm m_goal) ∧ ((0 ≤ m_goal → K m_cameFrom m_cameBy m_wave m_waved m_goal m_goalBy) ∧ (¬ 0 ≤ m_goal → (iv_X5_byPassage v3 b2 m_state m_goes m_cameFrom m_cameBy m_wave m_waved m_goal m_goalBy m_until (fun (u_24 : (Nat → Int) × (Nat → Int) × (Nat → Int) × Int × Int × Int) => (∀ x3_29 : Int, x3_29 = v3 + 1 → iv_X5_findWay_L30 K b2 m_state m_goes m_until n x3_29 u_24.1 u_24.2.1 u_24.2.2.1 u_24.2.2.2.1 u_24.2.2.2.2.1 u_24.2.2.2.2.2)))))))))))

set_option maxHeartbeats 4000000 in
theorem lift_X5_findWay_L30 {K0 : (Nat → Int32) → (Nat → Int32) → (Nat → Int32) → Int32 → Int32 → Int32 → Prop} {K : (Nat → Int) → (Nat → Int) → (Nat → Int) → Int → Int → Int → Prop} {b2' : Int32} {b2 : Int} {m_state' : (Nat → Int32)} {m_state : (Nat → Int)} {m_goes' : (Nat → Int32)} {m_goes : (Nat → Int)} {m_until' : Int32} {m_until : Int} (e_b2 : b2' = iz b2) (e_m_state : m_state' = az m_state) (e_m_goes : m_goes' = az m_goes) (e_m_until : m_until' = iz m_until)  (hKx : ∀ (k_m_cameFrom' : (Nat → Int32)) (k_m_cameBy' : (Nat → Int32)) (k_m_wave' : (Nat → Int32)) (k_m_waved' : Int32) (k_m_goal' : Int32) (k_m_goalBy' : Int32) (k_m_cameFrom : (Nat → Int)) (k_m_cameBy : (Nat → Int)) (k_m_wave : (Nat → Int)) (k_m_waved : Int) (k_m_goal : Int) (k_m_goalBy : Int), K k_m_cameFrom k_m_cameBy k_m_wave k_m_waved k_m_goal k_m_goalBy → k_m_cameFrom' = az k_m_cameFrom → k_m_cameBy' = az k_m_cameBy → k_m_wave' = az k_m_wave → k_m_waved' = iz k_m_waved → k_m_goal' = iz k_m_goal → k_m_goalBy' = iz k_m_goalBy →  K0 k_m_cameFrom' k_m_cameBy' k_m_wave' k_m_waved' k_m_goal' k_m_goalBy') :
    ∀ (n : Nat) (v3' : Int32) (m_cameFrom' : (Nat → Int32)) (m_cameBy' : (Nat → Int32)) (m_wave' : (Nat → Int32)) (m_waved' : Int32) (m_goal' : Int32) (m_goalBy' : Int32) (v3 : Int) (m_cameFrom : (Nat → Int)) (m_cameBy : (Nat → Int)) (m_wave : (Nat → Int)) (m_waved : Int) (m_goal : Int) (m_goalBy : Int) (e_v3 : v3' = iz v3) (e_m_cameFrom : m_cameFrom' = az m_cameFrom) (e_m_cameBy : m_cameBy' = az m_cameBy) (e_m_wave : m_wave' = az m_wave) (e_m_waved : m_waved' = iz m_waved) (e_m_goal : m_goal' = iz m_goal) (e_m_goalBy : m_goalBy' = iz m_goalBy), iv_X5_findWay_L30 K b2 m_state m_goes m_until n v3 m_cameFrom m_cameBy m_wave m_waved m_goal m_goalBy → vc_X5_findWay_L30 K0 b2' m_state' m_goes' m_until' n v3' m_cameFrom' m_cameBy' m_wave' m_waved' m_goal' m_goalBy' := by
  subst e_b2
  subst e_m_state
  subst e_m_goes
  subst e_m_until
  intro n
  induction n with
  | zero =>
    intro v3' m_cameFrom' m_cameBy' m_wave' m_waved' m_goal' m_goalBy' v3 m_cameFrom m_cameBy m_wave m_waved m_goal m_goalBy e_v3 e_m_cameFrom e_m_cameBy e_m_wave e_m_waved e_m_goal e_m_goalBy hv
    exact False.elim hv
  | succ n ih =>
    intro v3' m_cameFrom' m_cameBy' m_wave' m_waved' m_goal' m_goalBy' v3 m_cameFrom m_cameBy m_wave m_waved m_goal m_goalBy e_v3 e_m_cameFrom e_m_cameBy e_m_wave e_m_waved e_m_goal e_m_goalBy hv
    subst e_v3
    subst e_m_cameFrom
    subst e_m_cameBy
    subst e_m_wave
    subst e_m_waved
    subst e_m_goal
    subst e_m_goalBy
    rw [iv_X5_findWay_L30] at hv
    rw [vc_X5_findWay_L30]
    refine lift_X5_many (by first | with_reducible rfl | simp only [zl, iz_add, iz_sub, iz_mul, iz_neg]) hv (fun r_15 u_14 y_16 y_17 hv er_18 eu_19 => ?_)
    subst er_18; subst eu_19
    try dsimp only
    obtain ⟨hs_20, hv⟩ := hv
    have q_21 := z_le (x := (iz r_15)) (a := r_15) (by first | with_reducible rfl | simp only [zl, iz_add, iz_sub, iz_mul, iz_neg]) (y := (iz v3)) (b := v3) (by first | with_reducible rfl | simp only [zl, iz_add, iz_sub, iz_mul, iz_neg]) hs_20.1 hs_20.2
    refine ⟨fun c9 => ?_, fun c9 => ?_⟩
    · have hv := hv.1 (q_21.mp c9)
      exact hKx _ _ _ _ _ _ m_cameFrom m_cameBy m_wave m_waved m_goal m_goalBy hv (by first | with_reducible rfl | simp only [zl, iz_add, iz_sub, iz_mul, iz_neg]) (by first | with_reducible rfl | simp only [zl, iz_add, iz_sub, iz_mul, iz_neg]) (by first | with_reducible rfl | simp only [zl, iz_add, iz_sub, iz_mul, iz_neg]) (by first | with_reducible rfl | simp only [zl, iz_add, iz_sub, iz_mul, iz_neg]) (by first | with_reducible rfl | simp only [zl, iz_add, iz_sub, iz_mul, iz_neg]) (by first | with_reducible rfl | simp only [zl, iz_add, iz_sub, iz_mul, iz_neg])
    · have hv := hv.2 (fun z9 => c9 (q_21.mpr z9))
      obtain ⟨hs_22, hv⟩ := hv
      have q_23 := z_le (x := 0) (a := 0) (by first | with_reducible rfl | simp only [zl, iz_add, iz_sub, iz_mul, iz_neg]) (y := (iz m_goal)) (b := m_goal) (by first | with_reducible rfl | simp only [zl, iz_add, iz_sub, iz_mul, iz_neg]) hs_22.1 hs_22.2
      refine ⟨fun c9 => ?_, fun c9 => ?_⟩
      · have hv := hv.1 (q_23.mp c9)
        exact hKx _ _ _ _ _ _ m_cameFrom m_cameBy m_wave m_waved m_goal m_goalBy hv (by first | with_reducible rfl | simp only [zl, iz_add, iz_sub, iz_mul, iz_neg]) (by first | with_reducible rfl | simp only [zl, iz_add, iz_sub, iz_mul, iz_neg]) (by first | with_reducible rfl | simp only [zl, iz_add, iz_sub, iz_mul, iz_neg]) (by first | with_reducible rfl | simp only [zl, iz_add, iz_sub, iz_mul, iz_neg]) (by first | with_reducible rfl | simp only [zl, iz_add, iz_sub, iz_mul, iz_neg]) (by first | with_reducible rfl | simp only [zl, iz_add, iz_sub, iz_mul, iz_neg])
      · have hv := hv.2 (fun z9 => c9 (q_23.mpr z9))
        refine lift_X5_byPassage (by first | with_reducible rfl | simp only [zl, iz_add, iz_sub, iz_mul, iz_neg]) (by first | with_reducible rfl | simp only [zl, iz_add, iz_sub, iz_mul, iz_neg]) (by first | with_reducible rfl | simp only [zl, iz_add, iz_sub, iz_mul, iz_neg]) (by first | with_reducible rfl | simp only [zl, iz_add, iz_sub, iz_mul, iz_neg]) (by first | with_reducible rfl | simp only [zl, iz_add, iz_sub, iz_mul, iz_neg]) (by first | with_reducible rfl | simp only [zl, iz_add, iz_sub, iz_mul, iz_neg]) (by first | with_reducible rfl | simp only [zl, iz_add, iz_sub, iz_mul, iz_neg]) (by first | with_reducible rfl | simp only [zl, iz_add, iz_sub, iz_mul, iz_neg]) (by first | with_reducible rfl | simp only [zl, iz_add, iz_sub, iz_mul, iz_neg]) (by first | with_reducible rfl | simp only [zl, iz_add, iz_sub, iz_mul, iz_neg]) (by first | with_reducible rfl | simp only [zl, iz_add, iz_sub, iz_mul, iz_neg]) hv (fun u_24 y_26 hv eu_28 => ?_)
        subst eu_28
        try dsimp only
        intro y_30 hy_30
        obtain ⟨x3_29, hx3_29⟩ : ∃ z : Int, z = v3 + 1 := ⟨_, rfl⟩
        have hv := hv x3_29 hx3_29
        have ey_30 : y_30 = iz x3_29 := by rw [hy_30, hx3_29]; try exact (by first | with_reducible rfl | simp only [zl, iz_add, iz_sub, iz_mul, iz_neg])
        subst ey_30
        exact ih _ _ _ _ _ _ _ x3_29 u_24.1 u_24.2.1 u_24.2.2.1 u_24.2.2.2.1 u_24.2.2.2.2.1 u_24.2.2.2.2.2 (by first | with_reducible rfl | simp only [zl, iz_add, iz_sub, iz_mul, iz_neg]) (by first | with_reducible rfl | simp only [zl, iz_add, iz_sub, iz_mul, iz_neg]) (by first | with_reducible rfl | simp only [zl, iz_add, iz_sub, iz_mul, iz_neg]) (by first | with_reducible rfl | simp only [zl, iz_add, iz_sub, iz_mul, iz_neg]) (by first | with_reducible rfl | simp only [zl, iz_add, iz_sub, iz_mul, iz_neg]) (by first | with_reducible rfl | simp only [zl, iz_add, iz_sub, iz_mul, iz_neg]) (by first | with_reducible rfl | simp only [zl, iz_add, iz_sub, iz_mul, iz_neg]) hv

def iv_X5_findWay_L6 (K : (Nat → Int) → (Nat → Int) → (Nat → Int) → Int → Int → Int → Prop) (m_state : (Nat → Int)) (m_goes : (Nat → Int)) (m_waits : (Nat → Int)) (m_until : Int) : Nat → Int → (Nat → Int) → (Nat → Int) → (Nat → Int) → Int → Int → Int → Prop
  | 0, _, _, _, _, _, _, _ => False
  | n + 1, v1, m_cameFrom, m_cameBy, m_wave, m_waved, m_goal, m_goalBy =>
    ((sm m_waved ∧ sm v1) ∧ ((m_waved ≤ v1 → K m_cameFrom m_cameBy m_wave m_waved m_goal m_goalBy) ∧ (¬ m_waved ≤ v1 → ((sm 0 ∧ sm m_goal) ∧ ((0 ≤ m_goal → K m_cameFrom m_cameBy m_wave m_waved m_goal m_goalBy) ∧ (¬ 0 ≤ m_goal → ((0 ≤ v1 ∧ v1 < 366) ∧ (∀ x2_12 : Int, x2_12 = (m_wave v1.toNat) → (∃ n_84, iv_X5_findWay_L30 (fun m_cameFrom_31 m_cameBy_32 m_wave_33 m_waved_34 m_goal_35 m_goalBy_36 => ((zn x2_12) ∧ ((sm m_until ∧ sm (x2_12 - x2_12 / 61 * 61)) ∧ ((m_until ≤ (x2_12 - x2_12 / 61 * 61) → ((zn x2_12) ∧ ((sm (x2_12 - x2_12 / 61 * 61) ∧ sm 0) ∧ (((x2_12 - x2_12 / 61 * 61) ≤ 0 → (∀ x1_45 : Int, x1_45 = v1 + 1 → iv_X5_findWay_L6 K m_state m_goes m_waits m_until n x1_45 m_cameFrom_31 m_cameBy_32 m_wave_33 m_waved_34 m_goal_35 m_goalBy_36)) ∧ (¬ (x2_12 - x2_12 / 61 * 61) ≤ 0 → ((0 ≤ (x2_12 - 1) ∧ (x2_12 - 1) < 366) ∧ ((sm (m_waits ((x2_12 - 1)).toNat) ∧ sm 0) ∧ (((m_waits ((x2_12 - 1)).toNat) ≤ 0 → (∀ x1_51 : Int, x1_51 = v1 + 1 → iv_X5_findWay_L6 K m_state m_goes m_waits m_until n x1_51 m_cameFrom_31 m_cameBy_32 m_wave_33 m_waved_34 m_goal_35 m_goalBy_36)) ∧ (¬ (m_waits ((x2_12 - 1)).toNat) ≤ 0 → (iv_X5_come (x2_12 - 1) x2_12 2 m_cameFrom_31 m_cameBy_32 m_wave_33 m_waved_34 (fun (u_53 : (Nat → Int) × (Nat → Int) × (Nat → Int) × Int) => (∀ x1_58 : Int, x1_58 = v1 + 1 → iv_X5_findWay_L6 K m_state m_goes m_waits m_until n x1_58 u_53.1 u_53.2.1 u_53.2.2.1 u_53.2.2.2 m_goal_35 m_goalBy_36)))))))))))) ∧ (¬ m_until ≤ (x2_12 - x2_12 / 61 * 61) → (iv_X5_come (x2_12 + 1) x2_12 1 m_cameFrom_31 m_cameBy_32 m_wave_33 m_waved_34 (fun (u_60 : (Nat → Int) × (Nat → Int) × (Nat → Int) × Int) => ((zn x2_12) ∧ ((sm (x2_12 - x2_12 / 61 * 61) ∧ sm 0) ∧ (((x2_12 - x2_12 / 61 * 61) ≤ 0 → (∀ x1_69 : Int, x1_69 = v1 + 1 → iv_X5_findWay_L6 K m_state m_goes m_waits m_until n x1_69 u_60.1 u_60.2.1 u_60.2.2.1 u_60.2.2.2 m_goal_35 m_goalBy_36)) ∧ (¬ (x2_12 - x2_12 / 61 * 61) ≤ 0 → ((0 ≤ (x2_12 - 1) ∧ (x2_12 - 1) < 366) ∧ ((sm (m_waits ((x2_12 - 1)).toNat) ∧ sm 0) ∧ (((m_waits ((x2_12 - 1)).toNat) ≤ 0 → (∀ x1_75 : Int, x1_75 = v1 + 1 → iv_X5_findWay_L6 K m_state m_goes m_waits m_until n x1_75 u_60.1 u_60.2.1 u_60.2.2.1 u_60.2.2.2 m_goal_35 m_goalBy_36)) ∧ (¬ (m_waits ((x2_12 - 1)).toNat) ≤ 0 → (iv_X5_come (x2_12 - 1) x2_12 2 u_60.1 u_60.2.1 u_60.2.2.1 u_60.2.2.2 (fun (u_77 : (Nat → Int) × (Nat → Int) × (Nat → Int) × Int) => (∀ x1_82 : Int, x1_82 = v1 + 1 → iv_X5_findWay_L6 K m_state m_goes m_waits m_until n x1_82 u_77.1 u_77.2.1 u_77.2.2.1 u_77.2.2.2 m_goal_35 m_goalBy_36))))))))))))))))))  x2_12 m_state m_goes m_until n_84 0 m_cameFrom m_cameBy m_wave m_waved m_goal m_goalBy)))))))))

set_option maxHeartbeats 4000000 in
theorem lift_X5_findWay_L6 {K0 : (Nat → Int32) → (Nat → Int32) → (Nat → Int32) → Int32 → Int32 → Int32 → Prop} {K : (Nat → Int) → (Nat → Int) → (Nat → Int) → Int → Int → Int → Prop} {m_state' : (Nat → Int32)} {m_state : (Nat → Int)} {m_goes' : (Nat → Int32)} {m_goes : (Nat → Int)} {m_waits' : (Nat → Int32)} {m_waits : (Nat → Int)} {m_until' : Int32} {m_until : Int} (e_m_state : m_state' = az m_state) (e_m_goes : m_goes' = az m_goes) (e_m_waits : m_waits' = az m_waits) (e_m_until : m_until' = iz m_until)  (hKx : ∀ (k_m_cameFrom' : (Nat → Int32)) (k_m_cameBy' : (Nat → Int32)) (k_m_wave' : (Nat → Int32)) (k_m_waved' : Int32) (k_m_goal' : Int32) (k_m_goalBy' : Int32) (k_m_cameFrom : (Nat → Int)) (k_m_cameBy : (Nat → Int)) (k_m_wave : (Nat → Int)) (k_m_waved : Int) (k_m_goal : Int) (k_m_goalBy : Int), K k_m_cameFrom k_m_cameBy k_m_wave k_m_waved k_m_goal k_m_goalBy → k_m_cameFrom' = az k_m_cameFrom → k_m_cameBy' = az k_m_cameBy → k_m_wave' = az k_m_wave → k_m_waved' = iz k_m_waved → k_m_goal' = iz k_m_goal → k_m_goalBy' = iz k_m_goalBy →  K0 k_m_cameFrom' k_m_cameBy' k_m_wave' k_m_waved' k_m_goal' k_m_goalBy') :
    ∀ (n : Nat) (v1' : Int32) (m_cameFrom' : (Nat → Int32)) (m_cameBy' : (Nat → Int32)) (m_wave' : (Nat → Int32)) (m_waved' : Int32) (m_goal' : Int32) (m_goalBy' : Int32) (v1 : Int) (m_cameFrom : (Nat → Int)) (m_cameBy : (Nat → Int)) (m_wave : (Nat → Int)) (m_waved : Int) (m_goal : Int) (m_goalBy : Int) (e_v1 : v1' = iz v1) (e_m_cameFrom : m_cameFrom' = az m_cameFrom) (e_m_cameBy : m_cameBy' = az m_cameBy) (e_m_wave : m_wave' = az m_wave) (e_m_waved : m_waved' = iz m_waved) (e_m_goal : m_goal' = iz m_goal) (e_m_goalBy : m_goalBy' = iz m_goalBy), iv_X5_findWay_L6 K m_state m_goes m_waits m_until n v1 m_cameFrom m_cameBy m_wave m_waved m_goal m_goalBy → vc_X5_findWay_L6 K0 m_state' m_goes' m_waits' m_until' n v1' m_cameFrom' m_cameBy' m_wave' m_waved' m_goal' m_goalBy' := by
  subst e_m_state
  subst e_m_goes
  subst e_m_waits
  subst e_m_until
  intro n
  induction n with
  | zero =>
    intro v1' m_cameFrom' m_cameBy' m_wave' m_waved' m_goal' m_goalBy' v1 m_cameFrom m_cameBy m_wave m_waved m_goal m_goalBy e_v1 e_m_cameFrom e_m_cameBy e_m_wave e_m_waved e_m_goal e_m_goalBy hv
    exact False.elim hv
  | succ n ih =>
    intro v1' m_cameFrom' m_cameBy' m_wave' m_waved' m_goal' m_goalBy' v1 m_cameFrom m_cameBy m_wave m_waved m_goal m_goalBy e_v1 e_m_cameFrom e_m_cameBy e_m_wave e_m_waved e_m_goal e_m_goalBy hv
    subst e_v1
    subst e_m_cameFrom
    subst e_m_cameBy
    subst e_m_wave
    subst e_m_waved
    subst e_m_goal
    subst e_m_goalBy
    rw [iv_X5_findWay_L6] at hv
    rw [vc_X5_findWay_L6]
    obtain ⟨hs_6, hv⟩ := hv
    have q_7 := z_le (x := (iz m_waved)) (a := m_waved) (by first | with_reducible rfl | simp only [zl, iz_add, iz_sub, iz_mul, iz_neg]) (y := (iz v1)) (b := v1) (by first | with_reducible rfl | simp only [zl, iz_add, iz_sub, iz_mul, iz_neg]) hs_6.1 hs_6.2
    refine ⟨fun c9 => ?_, fun c9 => ?_⟩
    · have hv := hv.1 (q_7.mp c9)
      exact hKx _ _ _ _ _ _ m_cameFrom m_cameBy m_wave m_waved m_goal m_goalBy hv (by first | with_reducible rfl | simp only [zl, iz_add, iz_sub, iz_mul, iz_neg]) (by first | with_reducible rfl | simp only [zl, iz_add, iz_sub, iz_mul, iz_neg]) (by first | with_reducible rfl | simp only [zl, iz_add, iz_sub, iz_mul, iz_neg]) (by first | with_reducible rfl | simp only [zl, iz_add, iz_sub, iz_mul, iz_neg]) (by first | with_reducible rfl | simp only [zl, iz_add, iz_sub, iz_mul, iz_neg]) (by first | with_reducible rfl | simp only [zl, iz_add, iz_sub, iz_mul, iz_neg])
    · have hv := hv.2 (fun z9 => c9 (q_7.mpr z9))
      obtain ⟨hs_8, hv⟩ := hv
      have q_9 := z_le (x := 0) (a := 0) (by first | with_reducible rfl | simp only [zl, iz_add, iz_sub, iz_mul, iz_neg]) (y := (iz m_goal)) (b := m_goal) (by first | with_reducible rfl | simp only [zl, iz_add, iz_sub, iz_mul, iz_neg]) hs_8.1 hs_8.2
      refine ⟨fun c9 => ?_, fun c9 => ?_⟩
      · have hv := hv.1 (q_9.mp c9)
        exact hKx _ _ _ _ _ _ m_cameFrom m_cameBy m_wave m_waved m_goal m_goalBy hv (by first | with_reducible rfl | simp only [zl, iz_add, iz_sub, iz_mul, iz_neg]) (by first | with_reducible rfl | simp only [zl, iz_add, iz_sub, iz_mul, iz_neg]) (by first | with_reducible rfl | simp only [zl, iz_add, iz_sub, iz_mul, iz_neg]) (by first | with_reducible rfl | simp only [zl, iz_add, iz_sub, iz_mul, iz_neg]) (by first | with_reducible rfl | simp only [zl, iz_add, iz_sub, iz_mul, iz_neg]) (by first | with_reducible rfl | simp only [zl, iz_add, iz_sub, iz_mul, iz_neg])
      · have hv := hv.2 (fun z9 => c9 (q_9.mpr z9))
        obtain ⟨hi_10, hv⟩ := hv
        refine ⟨z_in (by first | with_reducible rfl | simp only [zl, iz_add, iz_sub, iz_mul, iz_neg]) hi_10 (by decide), ?_⟩
        have e_11 : ((az m_wave) ((iz v1)).toNatClampNeg) = iz (m_wave v1.toNat) := z_at (by first | with_reducible rfl | simp only [zl, iz_add, iz_sub, iz_mul, iz_neg]) (by first | with_reducible rfl | simp only [zl, iz_add, iz_sub, iz_mul, iz_neg]) hi_10 (by decide)
        try rw [e_11]
        intro y_13 hy_13
        obtain ⟨x2_12, hx2_12⟩ : ∃ z : Int, z = (m_wave v1.toNat) := ⟨_, rfl⟩
        have hv := hv x2_12 hx2_12
        have ey_13 : y_13 = iz x2_12 := by rw [hy_13, hx2_12]; try exact (by first | with_reducible rfl | simp only [zl, iz_add, iz_sub, iz_mul, iz_neg])
        subst ey_13
        obtain ⟨n_84, hv⟩ := hv
        refine ⟨n_84, lift_X5_findWay_L30 (by first | with_reducible rfl | simp only [zl, iz_add, iz_sub, iz_mul, iz_neg]) (by first | with_reducible rfl | simp only [zl, iz_add, iz_sub, iz_mul, iz_neg]) (by first | with_reducible rfl | simp only [zl, iz_add, iz_sub, iz_mul, iz_neg]) (by first | with_reducible rfl | simp only [zl, iz_add, iz_sub, iz_mul, iz_neg]) (fun y_85 y_86 y_87 y_88 y_89 y_90 m_cameFrom_31 m_cameBy_32 m_wave_33 m_waved_34 m_goal_35 m_goalBy_36 hv ey_91 ey_92 ey_93 ey_94 ey_95 ey_96 => ?_)  n_84 _ _ _ _ _ _ _ 0 m_cameFrom m_cameBy m_wave m_waved m_goal m_goalBy (by first | with_reducible rfl | simp only [zl, iz_add, iz_sub, iz_mul, iz_neg]) (by first | with_reducible rfl | simp only [zl, iz_add, iz_sub, iz_mul, iz_neg]) (by first | with_reducible rfl | simp only [zl, iz_add, iz_sub, iz_mul, iz_neg]) (by first | with_reducible rfl | simp only [zl, iz_add, iz_sub, iz_mul, iz_neg]) (by first | with_reducible rfl | simp only [zl, iz_add, iz_sub, iz_mul, iz_neg]) (by first | with_reducible rfl | simp only [zl, iz_add, iz_sub, iz_mul, iz_neg]) (by first | with_reducible rfl | simp only [zl, iz_add, iz_sub, iz_mul, iz_neg]) hv⟩
        subst ey_91
        subst ey_92
        subst ey_93
        subst ey_94
        subst ey_95
        subst ey_96
        obtain ⟨hc_37, hv⟩ := hv
        have e_38 : ((iz x2_12) - (iz x2_12) / 61 * 61) = iz (x2_12 - x2_12 / 61 * 61) := z_rem (by first | with_reducible rfl | simp only [zl, iz_add, iz_sub, iz_mul, iz_neg]) hc_37 (by decide) (by decide)
        try rw [e_38]
        obtain ⟨hs_39, hv⟩ := hv
        have q_40 := z_le (x := (iz m_until)) (a := m_until) (by first | with_reducible rfl | simp only [zl, iz_add, iz_sub, iz_mul, iz_neg]) (y := (iz (x2_12 - x2_12 / 61 * 61))) (b := (x2_12 - x2_12 / 61 * 61)) (by first | with_reducible rfl | simp only [zl, iz_add, iz_sub, iz_mul, iz_neg]) hs_39.1 hs_39.2
        refine ⟨fun c9 => ?_, fun c9 => ?_⟩
        · have hv := hv.1 (q_40.mp c9)
          obtain ⟨hc_41, hv⟩ := hv
          have e_42 : ((iz x2_12) - (iz x2_12) / 61 * 61) = iz (x2_12 - x2_12 / 61 * 61) := z_rem (by first | with_reducible rfl | simp only [zl, iz_add, iz_sub, iz_mul, iz_neg]) hc_41 (by decide) (by decide)
          try rw [e_42]
          obtain ⟨hs_43, hv⟩ := hv
          have q_44 := z_le (x := (iz (x2_12 - x2_12 / 61 * 61))) (a := (x2_12 - x2_12 / 61 * 61)) (by first | with_reducible rfl | simp only [zl, iz_add, iz_sub, iz_mul, iz_neg]) (y := 0) (b := 0) (by first | with_reducible rfl | simp only [zl, iz_add, iz_sub, iz_mul, iz_neg]) hs_43.1 hs_43.2
          refine ⟨fun c9 => ?_, fun c9 => ?_⟩
          · have hv := hv.1 (q_44.mp c9)
            intro y_46 hy_46
            obtain ⟨x1_45, hx1_45⟩ : ∃ z : Int, z = v1 + 1 := ⟨_, rfl⟩
            have hv := hv x1_45 hx1_45
            have ey_46 : y_46 = iz x1_45 := by rw [hy_46, hx1_45]; try exact (by first | with_reducible rfl | simp only [zl, iz_add, iz_sub, iz_mul, iz_neg])
            subst ey_46
            exact ih _ _ _ _ _ _ _ x1_45 m_cameFrom_31 m_cameBy_32 m_wave_33 m_waved_34 m_goal_35 m_goalBy_36 (by first | with_reducible rfl | simp only [zl, iz_add, iz_sub, iz_mul, iz_neg]) (by first | with_reducible rfl | simp only [zl, iz_add, iz_sub, iz_mul, iz_neg]) (by first | with_reducible rfl | simp only [zl, iz_add, iz_sub, iz_mul, iz_neg]) (by first | with_reducible rfl | simp only [zl, iz_add, iz_sub, iz_mul, iz_neg]) (by first | with_reducible rfl | simp only [zl, iz_add, iz_sub, iz_mul, iz_neg]) (by first | with_reducible rfl | simp only [zl, iz_add, iz_sub, iz_mul, iz_neg]) (by first | with_reducible rfl | simp only [zl, iz_add, iz_sub, iz_mul, iz_neg]) hv
          · have hv := hv.2 (fun z9 => c9 (q_44.mpr z9))
            obtain ⟨hi_47, hv⟩ := hv
            refine ⟨z_in (by first | with_reducible rfl | simp only [zl, iz_add, iz_sub, iz_mul, iz_neg]) hi_47 (by decide), ?_⟩
            have e_48 : ((az m_waits) (((iz x2_12) - 1)).toNatClampNeg) = iz (m_waits ((x2_12 - 1)).toNat) := z_at (by first | with_reducible rfl | simp only [zl, iz_add, iz_sub, iz_mul, iz_neg]) (by first | with_reducible rfl | simp only [zl, iz_add, iz_sub, iz_mul, iz_neg]) hi_47 (by decide)
            try rw [e_48]
            obtain ⟨hs_49, hv⟩ := hv
            have q_50 := z_le (x := (iz (m_waits ((x2_12 - 1)).toNat))) (a := (m_waits ((x2_12 - 1)).toNat)) (by first | with_reducible rfl | simp only [zl, iz_add, iz_sub, iz_mul, iz_neg]) (y := 0) (b := 0) (by first | with_reducible rfl | simp only [zl, iz_add, iz_sub, iz_mul, iz_neg]) hs_49.1 hs_49.2
            refine ⟨fun c9 => ?_, fun c9 => ?_⟩
            · have hv := hv.1 (q_50.mp c9)
              intro y_52 hy_52
              obtain ⟨x1_51, hx1_51⟩ : ∃ z : Int, z = v1 + 1 := ⟨_, rfl⟩
              have hv := hv x1_51 hx1_51
              have ey_52 : y_52 = iz x1_51 := by rw [hy_52, hx1_51]; try exact (by first | with_reducible rfl | simp only [zl, iz_add, iz_sub, iz_mul, iz_neg])
              subst ey_52
              exact ih _ _ _ _ _ _ _ x1_51 m_cameFrom_31 m_cameBy_32 m_wave_33 m_waved_34 m_goal_35 m_goalBy_36 (by first | with_reducible rfl | simp only [zl, iz_add, iz_sub, iz_mul, iz_neg]) (by first | with_reducible rfl | simp only [zl, iz_add, iz_sub, iz_mul, iz_neg]) (by first | with_reducible rfl | simp only [zl, iz_add, iz_sub, iz_mul, iz_neg]) (by first | with_reducible rfl | simp only [zl, iz_add, iz_sub, iz_mul, iz_neg]) (by first | with_reducible rfl | simp only [zl, iz_add, iz_sub, iz_mul, iz_neg]) (by first | with_reducible rfl | simp only [zl, iz_add, iz_sub, iz_mul, iz_neg]) (by first | with_reducible rfl | simp only [zl, iz_add, iz_sub, iz_mul, iz_neg]) hv
            · have hv := hv.2 (fun z9 => c9 (q_50.mpr z9))
              refine lift_X5_come (by first | with_reducible rfl | simp only [zl, iz_add, iz_sub, iz_mul, iz_neg]) (by first | with_reducible rfl | simp only [zl, iz_add, iz_sub, iz_mul, iz_neg]) (by first | with_reducible rfl | simp only [zl, iz_add, iz_sub, iz_mul, iz_neg]) (by first | with_reducible rfl | simp only [zl, iz_add, iz_sub, iz_mul, iz_neg]) (by first | with_reducible rfl | simp only [zl, iz_add, iz_sub, iz_mul, iz_neg]) (by first | with_reducible rfl | simp only [zl, iz_add, iz_sub, iz_mul, iz_neg]) (by first | with_reducible rfl | simp only [zl, iz_add, iz_sub, iz_mul, iz_neg]) hv (fun u_53 y_55 hv eu_57 => ?_)
              subst eu_57
              try dsimp only
              intro y_59 hy_59
              obtain ⟨x1_58, hx1_58⟩ : ∃ z : Int, z = v1 + 1 := ⟨_, rfl⟩
              have hv := hv x1_58 hx1_58
              have ey_59 : y_59 = iz x1_58 := by rw [hy_59, hx1_58]; try exact (by first | with_reducible rfl | simp only [zl, iz_add, iz_sub, iz_mul, iz_neg])
              subst ey_59
              exact ih _ _ _ _ _ _ _ x1_58 u_53.1 u_53.2.1 u_53.2.2.1 u_53.2.2.2 m_goal_35 m_goalBy_36 (by first | with_reducible rfl | simp only [zl, iz_add, iz_sub, iz_mul, iz_neg]) (by first | with_reducible rfl | simp only [zl, iz_add, iz_sub, iz_mul, iz_neg]) (by first | with_reducible rfl | simp only [zl, iz_add, iz_sub, iz_mul, iz_neg]) (by first | with_reducible rfl | simp only [zl, iz_add, iz_sub, iz_mul, iz_neg]) (by first | with_reducible rfl | simp only [zl, iz_add, iz_sub, iz_mul, iz_neg]) (by first | with_reducible rfl | simp only [zl, iz_add, iz_sub, iz_mul, iz_neg]) (by first | with_reducible rfl | simp only [zl, iz_add, iz_sub, iz_mul, iz_neg]) hv
        · have hv := hv.2 (fun z9 => c9 (q_40.mpr z9))
          refine lift_X5_come (by first | with_reducible rfl | simp only [zl, iz_add, iz_sub, iz_mul, iz_neg]) (by first | with_reducible rfl | simp only [zl, iz_add, iz_sub, iz_mul, iz_neg]) (by first | with_reducible rfl | simp only [zl, iz_add, iz_sub, iz_mul, iz_neg]) (by first | with_reducible rfl | simp only [zl, iz_add, iz_sub, iz_mul, iz_neg]) (by first | with_reducible rfl | simp only [zl, iz_add, iz_sub, iz_mul, iz_neg]) (by first | with_reducible rfl | simp only [zl, iz_add, iz_sub, iz_mul, iz_neg]) (by first | with_reducible rfl | simp only [zl, iz_add, iz_sub, iz_mul, iz_neg]) hv (fun u_60 y_62 hv eu_64 => ?_)
          subst eu_64
          try dsimp only
          obtain ⟨hc_65, hv⟩ := hv
          have e_66 : ((iz x2_12) - (iz x2_12) / 61 * 61) = iz (x2_12 - x2_12 / 61 * 61) := z_rem (by first | with_reducible rfl | simp only [zl, iz_add, iz_sub, iz_mul, iz_neg]) hc_65 (by decide) (by decide)
          try rw [e_66]
          obtain ⟨hs_67, hv⟩ := hv
          have q_68 := z_le (x := (iz (x2_12 - x2_12 / 61 * 61))) (a := (x2_12 - x2_12 / 61 * 61)) (by first | with_reducible rfl | simp only [zl, iz_add, iz_sub, iz_mul, iz_neg]) (y := 0) (b := 0) (by first | with_reducible rfl | simp only [zl, iz_add, iz_sub, iz_mul, iz_neg]) hs_67.1 hs_67.2
          refine ⟨fun c9 => ?_, fun c9 => ?_⟩
          · have hv := hv.1 (q_68.mp c9)
            intro y_70 hy_70
            obtain ⟨x1_69, hx1_69⟩ : ∃ z : Int, z = v1 + 1 := ⟨_, rfl⟩
            have hv := hv x1_69 hx1_69
            have ey_70 : y_70 = iz x1_69 := by rw [hy_70, hx1_69]; try exact (by first | with_reducible rfl | simp only [zl, iz_add, iz_sub, iz_mul, iz_neg])
            subst ey_70
            exact ih _ _ _ _ _ _ _ x1_69 u_60.1 u_60.2.1 u_60.2.2.1 u_60.2.2.2 m_goal_35 m_goalBy_36 (by first | with_reducible rfl | simp only [zl, iz_add, iz_sub, iz_mul, iz_neg]) (by first | with_reducible rfl | simp only [zl, iz_add, iz_sub, iz_mul, iz_neg]) (by first | with_reducible rfl | simp only [zl, iz_add, iz_sub, iz_mul, iz_neg]) (by first | with_reducible rfl | simp only [zl, iz_add, iz_sub, iz_mul, iz_neg]) (by first | with_reducible rfl | simp only [zl, iz_add, iz_sub, iz_mul, iz_neg]) (by first | with_reducible rfl | simp only [zl, iz_add, iz_sub, iz_mul, iz_neg]) (by first | with_reducible rfl | simp only [zl, iz_add, iz_sub, iz_mul, iz_neg]) hv
          · have hv := hv.2 (fun z9 => c9 (q_68.mpr z9))
            obtain ⟨hi_71, hv⟩ := hv
            refine ⟨z_in (by first | with_reducible rfl | simp only [zl, iz_add, iz_sub, iz_mul, iz_neg]) hi_71 (by decide), ?_⟩
            have e_72 : ((az m_waits) (((iz x2_12) - 1)).toNatClampNeg) = iz (m_waits ((x2_12 - 1)).toNat) := z_at (by first | with_reducible rfl | simp only [zl, iz_add, iz_sub, iz_mul, iz_neg]) (by first | with_reducible rfl | simp only [zl, iz_add, iz_sub, iz_mul, iz_neg]) hi_71 (by decide)
            try rw [e_72]
            obtain ⟨hs_73, hv⟩ := hv
            have q_74 := z_le (x := (iz (m_waits ((x2_12 - 1)).toNat))) (a := (m_waits ((x2_12 - 1)).toNat)) (by first | with_reducible rfl | simp only [zl, iz_add, iz_sub, iz_mul, iz_neg]) (y := 0) (b := 0) (by first | with_reducible rfl | simp only [zl, iz_add, iz_sub, iz_mul, iz_neg]) hs_73.1 hs_73.2
            refine ⟨fun c9 => ?_, fun c9 => ?_⟩
            · have hv := hv.1 (q_74.mp c9)
              intro y_76 hy_76
              obtain ⟨x1_75, hx1_75⟩ : ∃ z : Int, z = v1 + 1 := ⟨_, rfl⟩
              have hv := hv x1_75 hx1_75
              have ey_76 : y_76 = iz x1_75 := by rw [hy_76, hx1_75]; try exact (by first | with_reducible rfl | simp only [zl, iz_add, iz_sub, iz_mul, iz_neg])
              subst ey_76
              exact ih _ _ _ _ _ _ _ x1_75 u_60.1 u_60.2.1 u_60.2.2.1 u_60.2.2.2 m_goal_35 m_goalBy_36 (by first | with_reducible rfl | simp only [zl, iz_add, iz_sub, iz_mul, iz_neg]) (by first | with_reducible rfl | simp only [zl, iz_add, iz_sub, iz_mul, iz_neg]) (by first | with_reducible rfl | simp only [zl, iz_add, iz_sub, iz_mul, iz_neg]) (by first | with_reducible rfl | simp only [zl, iz_add, iz_sub, iz_mul, iz_neg]) (by first | with_reducible rfl | simp only [zl, iz_add, iz_sub, iz_mul, iz_neg]) (by first | with_reducible rfl | simp only [zl, iz_add, iz_sub, iz_mul, iz_neg]) (by first | with_reducible rfl | simp only [zl, iz_add, iz_sub, iz_mul, iz_neg]) hv
            · have hv := hv.2 (fun z9 => c9 (q_74.mpr z9))
              refine lift_X5_come (by first | with_reducible rfl | simp only [zl, iz_add, iz_sub, iz_mul, iz_neg]) (by first | with_reducible rfl | simp only [zl, iz_add, iz_sub, iz_mul, iz_neg]) (by first | with_reducible rfl | simp only [zl, iz_add, iz_sub, iz_mul, iz_neg]) (by first | with_reducible rfl | simp only [zl, iz_add, iz_sub, iz_mul, iz_neg]) (by first | with_reducible rfl | simp only [zl, iz_add, iz_sub, iz_mul, iz_neg]) (by first | with_reducible rfl | simp only [zl, iz_add, iz_sub, iz_mul, iz_neg]) (by first | with_reducible rfl | simp only [zl, iz_add, iz_sub, iz_mul, iz_neg]) hv (fun u_77 y_79 hv eu_81 => ?_)
              subst eu_81
              try dsimp only
              intro y_83 hy_83
              obtain ⟨x1_82, hx1_82⟩ : ∃ z : Int, z = v1 + 1 := ⟨_, rfl⟩
              have hv := hv x1_82 hx1_82
              have ey_83 : y_83 = iz x1_82 := by rw [hy_83, hx1_82]; try exact (by first | with_reducible rfl | simp only [zl, iz_add, iz_sub, iz_mul, iz_neg])
              subst ey_83
              exact ih _ _ _ _ _ _ _ x1_82 u_77.1 u_77.2.1 u_77.2.2.1 u_77.2.2.2 m_goal_35 m_goalBy_36 (by first | with_reducible rfl | simp only [zl, iz_add, iz_sub, iz_mul, iz_neg]) (by first | with_reducible rfl | simp only [zl, iz_add, iz_sub, iz_mul, iz_neg]) (by first | with_reducible rfl | simp only [zl, iz_add, iz_sub, iz_mul, iz_neg]) (by first | with_reducible rfl | simp only [zl, iz_add, iz_sub, iz_mul, iz_neg]) (by first | with_reducible rfl | simp only [zl, iz_add, iz_sub, iz_mul, iz_neg]) (by first | with_reducible rfl | simp only [zl, iz_add, iz_sub, iz_mul, iz_neg]) (by first | with_reducible rfl | simp only [zl, iz_add, iz_sub, iz_mul, iz_neg]) hv

def iv_X5_findWay (m_state : (Nat → Int)) (m_goes : (Nat → Int)) (m_waits : (Nat → Int)) (m_still : (Nat → Int)) (m_cameFrom : (Nat → Int)) (m_cameBy : (Nat → Int)) (m_wave : (Nat → Int)) (m_waved : Int) (m_goal : Int) (m_goalBy : Int) (m_until : Int) (post : Int → ((Nat → Int) × (Nat → Int) × (Nat → Int) × Int × Int × Int) → Prop) : Prop :=
  (iv_X5_beginWave m_still m_cameFrom m_cameBy m_wave m_waved m_goal (fun (u_1 : (Nat → Int) × (Nat → Int) × (Nat → Int) × Int × Int) => (∃ n_105, iv_X5_findWay_L6 (fun m_cameFrom_97 m_cameBy_98 m_wave_99 m_waved_100 m_goal_101 m_goalBy_102 => ((sm m_goal_101 ∧ sm 0) ∧ ((m_goal_101 < 0 → post 0 (m_cameFrom_97, m_cameBy_98, m_wave_99, m_waved_100, m_goal_101, m_goalBy_102)) ∧ (¬ m_goal_101 < 0 → post 1 (m_cameFrom_97, m_cameBy_98, m_wave_99, m_waved_100, m_goal_101, m_goalBy_102)))))  m_state m_goes m_waits m_until n_105 0 u_1.1 u_1.2.1 u_1.2.2.1 u_1.2.2.2.1 u_1.2.2.2.2 m_goalBy)))

set_option maxHeartbeats 4000000 in
theorem lift_X5_findWay {m_state' : (Nat → Int32)} {m_state : (Nat → Int)} {m_goes' : (Nat → Int32)} {m_goes : (Nat → Int)} {m_waits' : (Nat → Int32)} {m_waits : (Nat → Int)} {m_still' : (Nat → Int32)} {m_still : (Nat → Int)} {m_cameFrom' : (Nat → Int32)} {m_cameFrom : (Nat → Int)} {m_cameBy' : (Nat → Int32)} {m_cameBy : (Nat → Int)} {m_wave' : (Nat → Int32)} {m_wave : (Nat → Int)} {m_waved' : Int32} {m_waved : Int} {m_goal' : Int32} {m_goal : Int} {m_goalBy' : Int32} {m_goalBy : Int} {m_until' : Int32} {m_until : Int} (e_m_state : m_state' = az m_state) (e_m_goes : m_goes' = az m_goes) (e_m_waits : m_waits' = az m_waits) (e_m_still : m_still' = az m_still) (e_m_cameFrom : m_cameFrom' = az m_cameFrom) (e_m_cameBy : m_cameBy' = az m_cameBy) (e_m_wave : m_wave' = az m_wave) (e_m_waved : m_waved' = iz m_waved) (e_m_goal : m_goal' = iz m_goal) (e_m_goalBy : m_goalBy' = iz m_goalBy) (e_m_until : m_until' = iz m_until) {post0 : Int32 → ((Nat → Int32) × (Nat → Int32) × (Nat → Int32) × Int32 × Int32 × Int32) → Prop} {post : Int → ((Nat → Int) × (Nat → Int) × (Nat → Int) × Int × Int × Int) → Prop} (hv : iv_X5_findWay m_state m_goes m_waits m_still m_cameFrom m_cameBy m_wave m_waved m_goal m_goalBy m_until post) (hp : ∀ (r : Int) (u : (Nat → Int) × (Nat → Int) × (Nat → Int) × Int × Int × Int) (x : Int32) (y : (Nat → Int32) × (Nat → Int32) × (Nat → Int32) × Int32 × Int32 × Int32), post r u → x = iz r → y = (az u.1, az u.2.1, az u.2.2.1, iz u.2.2.2.1, iz u.2.2.2.2.1, iz u.2.2.2.2.2) → post0 x y) : vc_X5_findWay m_state' m_goes' m_waits' m_still' m_cameFrom' m_cameBy' m_wave' m_waved' m_goal' m_goalBy' m_until' post0 := by
  subst e_m_state
  subst e_m_goes
  subst e_m_waits
  subst e_m_still
  subst e_m_cameFrom
  subst e_m_cameBy
  subst e_m_wave
  subst e_m_waved
  subst e_m_goal
  subst e_m_goalBy
  subst e_m_until
  rw [iv_X5_findWay] at hv
  rw [vc_X5_findWay]
  refine lift_X5_beginWave (by first | with_reducible rfl | simp only [zl, iz_add, iz_sub, iz_mul, iz_neg]) (by first | with_reducible rfl | simp only [zl, iz_add, iz_sub, iz_mul, iz_neg]) (by first | with_reducible rfl | simp only [zl, iz_add, iz_sub, iz_mul, iz_neg]) (by first | with_reducible rfl | simp only [zl, iz_add, iz_sub, iz_mul, iz_neg]) (by first | with_reducible rfl | simp only [zl, iz_add, iz_sub, iz_mul, iz_neg]) (by first | with_reducible rfl | simp only [zl, iz_add, iz_sub, iz_mul, iz_neg]) hv (fun u_1 y_3 hv eu_5 => ?_)
  subst eu_5
  try dsimp only
  obtain ⟨n_105, hv⟩ := hv
  refine ⟨n_105, lift_X5_findWay_L6 (by first | with_reducible rfl | simp only [zl, iz_add, iz_sub, iz_mul, iz_neg]) (by first | with_reducible rfl | simp only [zl, iz_add, iz_sub, iz_mul, iz_neg]) (by first | with_reducible rfl | simp only [zl, iz_add, iz_sub, iz_mul, iz_neg]) (by first | with_reducible rfl | simp only [zl, iz_add, iz_sub, iz_mul, iz_neg]) (fun y_106 y_107 y_108 y_109 y_110 y_111 m_cameFrom_97 m_cameBy_98 m_wave_99 m_waved_100 m_goal_101 m_goalBy_102 hv ey_112 ey_113 ey_114 ey_115 ey_116 ey_117 => ?_)  n_105 _ _ _ _ _ _ _ 0 u_1.1 u_1.2.1 u_1.2.2.1 u_1.2.2.2.1 u_1.2.2.2.2 m_goalBy (by first | with_reducible rfl | simp only [zl, iz_add, iz_sub, iz_mul, iz_neg]) (by first | with_reducible rfl | simp only [zl, iz_add, iz_sub, iz_mul, iz_neg]) (by first | with_reducible rfl | simp only [zl, iz_add, iz_sub, iz_mul, iz_neg]) (by first | with_reducible rfl | simp only [zl, iz_add, iz_sub, iz_mul, iz_neg]) (by first | with_reducible rfl | simp only [zl, iz_add, iz_sub, iz_mul, iz_neg]) (by first | with_reducible rfl | simp only [zl, iz_add, iz_sub, iz_mul, iz_neg]) (by first | with_reducible rfl | simp only [zl, iz_add, iz_sub, iz_mul, iz_neg]) hv⟩
  subst ey_112
  subst ey_113
  subst ey_114
  subst ey_115
  subst ey_116
  subst ey_117
  obtain ⟨hs_103, hv⟩ := hv
  have q_104 := z_lt (x := (iz m_goal_101)) (a := m_goal_101) (by first | with_reducible rfl | simp only [zl, iz_add, iz_sub, iz_mul, iz_neg]) (y := 0) (b := 0) (by first | with_reducible rfl | simp only [zl, iz_add, iz_sub, iz_mul, iz_neg]) hs_103.1 hs_103.2
  refine ⟨fun c9 => ?_, fun c9 => ?_⟩
  · have hv := hv.1 (q_104.mp c9)
    exact hp _ _ _ _ hv (by first | with_reducible rfl | simp only [zl, iz_add, iz_sub, iz_mul, iz_neg]) (by first | with_reducible rfl | simp only [zl, iz_add, iz_sub, iz_mul, iz_neg])
  · have hv := hv.2 (fun z9 => c9 (q_104.mpr z9))
    exact hp _ _ _ _ hv (by first | with_reducible rfl | simp only [zl, iz_add, iz_sub, iz_mul, iz_neg]) (by first | with_reducible rfl | simp only [zl, iz_add, iz_sub, iz_mul, iz_neg])

def iv_X5_roomIn (a1 : Int) (m_state : (Nat → Int)) (m_goes : (Nat → Int)) (m_waits : (Nat → Int)) (m_still : (Nat → Int)) (m_cameFrom : (Nat → Int)) (m_cameBy : (Nat → Int)) (post : Int → Unit → Prop) : Prop :=
  ((0 ≤ a1 ∧ a1 < 366) ∧ (∀ x2_3 : Int, x2_3 = (m_cameBy a1.toNat) → ((sm x2_3 ∧ sm 0) ∧ ((¬ x2_3 = 0 → ((sm x2_3 ∧ sm 1) ∧ ((¬ x2_3 = 1 → ((sm x2_3 ∧ sm 2) ∧ ((¬ x2_3 = 2 → ((zn x2_3) ∧ (∀ x3_13 : Int, x3_13 = (x2_3 - x2_3 / 10 * 10) → ((sm 20 ∧ sm x2_3) ∧ ((20 ≤ x2_3 → ((zn a1) ∧ ((0 ≤ ((61 * x3_13) + (a1 - a1 / 61 * 61)) ∧ ((61 * x3_13) + (a1 - a1 / 61 * 61)) < 610) ∧ post (m_goes (((61 * x3_13) + (a1 - a1 / 61 * 61))).toNat) ()))) ∧ (¬ 20 ≤ x2_3 → ((0 ≤ (38 + x3_13) ∧ (38 + x3_13) < 69) ∧ ((0 ≤ a1 ∧ a1 < 366) ∧ ((zn (m_cameFrom a1.toNat)) ∧ ((0 ≤ ((61 * x3_13) + ((m_cameFrom a1.toNat) - (m_cameFrom a1.toNat) / 61 * 61)) ∧ ((61 * x3_13) + ((m_cameFrom a1.toNat) - (m_cameFrom a1.toNat) / 61 * 61)) < 610) ∧ post ((m_state ((38 + x3_13)).toNat) - (m_goes (((61 * x3_13) + ((m_cameFrom a1.toNat) - (m_cameFrom a1.toNat) / 61 * 61))).toNat)) ())))))))))) ∧ (x2_3 = 2 → ((0 ≤ a1 ∧ a1 < 366) ∧ post (m_waits a1.toNat) ()))))) ∧ (x2_3 = 1 → post 1000 ())))) ∧ (x2_3 = 0 → ((zn a1) ∧ ((0 ≤ (a1 / 61) ∧ (a1 / 61) < 6) ∧ post (m_still ((a1 / 61)).toNat) ())))))))

set_option maxHeartbeats 4000000 in
theorem lift_X5_roomIn {a1' : Int32} {a1 : Int} {m_state' : (Nat → Int32)} {m_state : (Nat → Int)} {m_goes' : (Nat → Int32)} {m_goes : (Nat → Int)} {m_waits' : (Nat → Int32)} {m_waits : (Nat → Int)} {m_still' : (Nat → Int32)} {m_still : (Nat → Int)} {m_cameFrom' : (Nat → Int32)} {m_cameFrom : (Nat → Int)} {m_cameBy' : (Nat → Int32)} {m_cameBy : (Nat → Int)} (e_a1 : a1' = iz a1) (e_m_state : m_state' = az m_state) (e_m_goes : m_goes' = az m_goes) (e_m_waits : m_waits' = az m_waits) (e_m_still : m_still' = az m_still) (e_m_cameFrom : m_cameFrom' = az m_cameFrom) (e_m_cameBy : m_cameBy' = az m_cameBy) {post0 : Int32 → Unit → Prop} {post : Int → Unit → Prop} (hv : iv_X5_roomIn a1 m_state m_goes m_waits m_still m_cameFrom m_cameBy post) (hp : ∀ (r : Int) (u : Unit) (x : Int32) (y : Unit), post r u → x = iz r → y = () → post0 x y) : vc_X5_roomIn a1' m_state' m_goes' m_waits' m_still' m_cameFrom' m_cameBy' post0 := by
  subst e_a1
  subst e_m_state
  subst e_m_goes
  subst e_m_waits
  subst e_m_still
  subst e_m_cameFrom
  subst e_m_cameBy
  rw [iv_X5_roomIn] at hv
  rw [vc_X5_roomIn]
  obtain ⟨hi_1, hv⟩ := hv
  refine ⟨z_in (by first | with_reducible rfl | simp only [zl, iz_add, iz_sub, iz_mul, iz_neg]) hi_1 (by decide), ?_⟩
  have e_2 : ((az m_cameBy) ((iz a1)).toNatClampNeg) = iz (m_cameBy a1.toNat) := z_at (by first | with_reducible rfl | simp only [zl, iz_add, iz_sub, iz_mul, iz_neg]) (by first | with_reducible rfl | simp only [zl, iz_add, iz_sub, iz_mul, iz_neg]) hi_1 (by decide)
  try rw [e_2]
  intro y_4 hy_4
  obtain ⟨x2_3, hx2_3⟩ : ∃ z : Int, z = (m_cameBy a1.toNat) := ⟨_, rfl⟩
  have hv := hv x2_3 hx2_3
  have ey_4 : y_4 = iz x2_3 := by rw [hy_4, hx2_3]; try exact (by first | with_reducible rfl | simp only [zl, iz_add, iz_sub, iz_mul, iz_neg])
  subst ey_4
  obtain ⟨hs_5, hv⟩ := hv
  have q_6 := z_eq (x := (iz x2_3)) (a := x2_3) (by first | with_reducible rfl | simp only [zl, iz_add, iz_sub, iz_mul, iz_neg]) (y := 0) (b := 0) (by first | with_reducible rfl | simp only [zl, iz_add, iz_sub, iz_mul, iz_neg]) hs_5.1 hs_5.2
  refine ⟨fun c9 => ?_, fun c9 => ?_⟩
  · have hv := hv.1 (fun z9 => c9 (q_6.mpr z9))
    obtain ⟨hs_7, hv⟩ := hv
    have q_8 := z_eq (x := (iz x2_3)) (a := x2_3) (by first | with_reducible rfl | simp only [zl, iz_add, iz_sub, iz_mul, iz_neg]) (y := 1) (b := 1) (by first | with_reducible rfl | simp only [zl, iz_add, iz_sub, iz_mul, iz_neg]) hs_7.1 hs_7.2
    refine ⟨fun c9 => ?_, fun c9 => ?_⟩
    · have hv := hv.1 (fun z9 => c9 (q_8.mpr z9))
      obtain ⟨hs_9, hv⟩ := hv
      have q_10 := z_eq (x := (iz x2_3)) (a := x2_3) (by first | with_reducible rfl | simp only [zl, iz_add, iz_sub, iz_mul, iz_neg]) (y := 2) (b := 2) (by first | with_reducible rfl | simp only [zl, iz_add, iz_sub, iz_mul, iz_neg]) hs_9.1 hs_9.2
      refine ⟨fun c9 => ?_, fun c9 => ?_⟩
      · have hv := hv.1 (fun z9 => c9 (q_10.mpr z9))
        obtain ⟨hc_11, hv⟩ := hv
        have e_12 : ((iz x2_3) - (iz x2_3) / 10 * 10) = iz (x2_3 - x2_3 / 10 * 10) := z_rem (by first | with_reducible rfl | simp only [zl, iz_add, iz_sub, iz_mul, iz_neg]) hc_11 (by decide) (by decide)
        try rw [e_12]
        intro y_14 hy_14
        obtain ⟨x3_13, hx3_13⟩ : ∃ z : Int, z = (x2_3 - x2_3 / 10 * 10) := ⟨_, rfl⟩
        have hv := hv x3_13 hx3_13
        have ey_14 : y_14 = iz x3_13 := by rw [hy_14, hx3_13]; try exact (by first | with_reducible rfl | simp only [zl, iz_add, iz_sub, iz_mul, iz_neg])
        subst ey_14
        obtain ⟨hs_15, hv⟩ := hv
        have q_16 := z_le (x := 20) (a := 20) (by first | with_reducible rfl | simp only [zl, iz_add, iz_sub, iz_mul, iz_neg]) (y := (iz x2_3)) (b := x2_3) (by first | with_reducible rfl | simp only [zl, iz_add, iz_sub, iz_mul, iz_neg]) hs_15.1 hs_15.2
        refine ⟨fun c9 => ?_, fun c9 => ?_⟩
        · have hv := hv.1 (q_16.mp c9)
          obtain ⟨hc_17, hv⟩ := hv
          have e_18 : ((iz a1) - (iz a1) / 61 * 61) = iz (a1 - a1 / 61 * 61) := z_rem (by first | with_reducible rfl | simp only [zl, iz_add, iz_sub, iz_mul, iz_neg]) hc_17 (by decide) (by decide)
          try rw [e_18]
          obtain ⟨hi_19, hv⟩ := hv
          refine ⟨z_in (by first | with_reducible rfl | simp only [zl, iz_add, iz_sub, iz_mul, iz_neg]) hi_19 (by decide), ?_⟩
          have e_20 : ((az m_goes) (((61 * (iz x3_13)) + (iz (a1 - a1 / 61 * 61)))).toNatClampNeg) = iz (m_goes (((61 * x3_13) + (a1 - a1 / 61 * 61))).toNat) := z_at (by first | with_reducible rfl | simp only [zl, iz_add, iz_sub, iz_mul, iz_neg]) (by first | with_reducible rfl | simp only [zl, iz_add, iz_sub, iz_mul, iz_neg]) hi_19 (by decide)
          try rw [e_20]
          exact hp _ _ _ _ hv (by first | with_reducible rfl | simp only [zl, iz_add, iz_sub, iz_mul, iz_neg]) (by first | with_reducible rfl | simp only [zl, iz_add, iz_sub, iz_mul, iz_neg])
        · have hv := hv.2 (fun z9 => c9 (q_16.mpr z9))
          obtain ⟨hi_21, hv⟩ := hv
          refine ⟨z_in (by first | with_reducible rfl | simp only [zl, iz_add, iz_sub, iz_mul, iz_neg]) hi_21 (by decide), ?_⟩
          have e_22 : ((az m_state) ((38 + (iz x3_13))).toNatClampNeg) = iz (m_state ((38 + x3_13)).toNat) := z_at (by first | with_reducible rfl | simp only [zl, iz_add, iz_sub, iz_mul, iz_neg]) (by first | with_reducible rfl | simp only [zl, iz_add, iz_sub, iz_mul, iz_neg]) hi_21 (by decide)
          try rw [e_22]
          obtain ⟨hi_23, hv⟩ := hv
          refine ⟨z_in (by first | with_reducible rfl | simp only [zl, iz_add, iz_sub, iz_mul, iz_neg]) hi_23 (by decide), ?_⟩
          have e_24 : ((az m_cameFrom) ((iz a1)).toNatClampNeg) = iz (m_cameFrom a1.toNat) := z_at (by first | with_reducible rfl | simp only [zl, iz_add, iz_sub, iz_mul, iz_neg]) (by first | with_reducible rfl | simp only [zl, iz_add, iz_sub, iz_mul, iz_neg]) hi_23 (by decide)
          try rw [e_24]
          obtain ⟨hc_25, hv⟩ := hv
          have e_26 : ((iz (m_cameFrom a1.toNat)) - (iz (m_cameFrom a1.toNat)) / 61 * 61) = iz ((m_cameFrom a1.toNat) - (m_cameFrom a1.toNat) / 61 * 61) := z_rem (by first | with_reducible rfl | simp only [zl, iz_add, iz_sub, iz_mul, iz_neg]) hc_25 (by decide) (by decide)
          try rw [e_26]
          obtain ⟨hi_27, hv⟩ := hv
          refine ⟨z_in (by first | with_reducible rfl | simp only [zl, iz_add, iz_sub, iz_mul, iz_neg]) hi_27 (by decide), ?_⟩
          have e_28 : ((az m_goes) (((61 * (iz x3_13)) + (iz ((m_cameFrom a1.toNat) - (m_cameFrom a1.toNat) / 61 * 61)))).toNatClampNeg) = iz (m_goes (((61 * x3_13) + ((m_cameFrom a1.toNat) - (m_cameFrom a1.toNat) / 61 * 61))).toNat) := z_at (by first | with_reducible rfl | simp only [zl, iz_add, iz_sub, iz_mul, iz_neg]) (by first | with_reducible rfl | simp only [zl, iz_add, iz_sub, iz_mul, iz_neg]) hi_27 (by decide)
          try rw [e_28]
          exact hp _ _ _ _ hv (by first | with_reducible rfl | simp only [zl, iz_add, iz_sub, iz_mul, iz_neg]) (by first | with_reducible rfl | simp only [zl, iz_add, iz_sub, iz_mul, iz_neg])
      · have hv := hv.2 (q_10.mp c9)
        obtain ⟨hi_29, hv⟩ := hv
        refine ⟨z_in (by first | with_reducible rfl | simp only [zl, iz_add, iz_sub, iz_mul, iz_neg]) hi_29 (by decide), ?_⟩
        have e_30 : ((az m_waits) ((iz a1)).toNatClampNeg) = iz (m_waits a1.toNat) := z_at (by first | with_reducible rfl | simp only [zl, iz_add, iz_sub, iz_mul, iz_neg]) (by first | with_reducible rfl | simp only [zl, iz_add, iz_sub, iz_mul, iz_neg]) hi_29 (by decide)
        try rw [e_30]
        exact hp _ _ _ _ hv (by first | with_reducible rfl | simp only [zl, iz_add, iz_sub, iz_mul, iz_neg]) (by first | with_reducible rfl | simp only [zl, iz_add, iz_sub, iz_mul, iz_neg])
    · have hv := hv.2 (q_8.mp c9)
      exact hp _ _ _ _ hv (by first | with_reducible rfl | simp only [zl, iz_add, iz_sub, iz_mul, iz_neg]) (by first | with_reducible rfl | simp only [zl, iz_add, iz_sub, iz_mul, iz_neg])
  · have hv := hv.2 (q_6.mp c9)
    obtain ⟨hc_31, hv⟩ := hv
    have e_32 : ((iz a1) / 61) = iz (a1 / 61) := z_div (by first | with_reducible rfl | simp only [zl, iz_add, iz_sub, iz_mul, iz_neg]) hc_31 (by decide) (by decide)
    try rw [e_32]
    obtain ⟨hi_33, hv⟩ := hv
    refine ⟨z_in (by first | with_reducible rfl | simp only [zl, iz_add, iz_sub, iz_mul, iz_neg]) hi_33 (by decide), ?_⟩
    have e_34 : ((az m_still) ((iz (a1 / 61))).toNatClampNeg) = iz (m_still ((a1 / 61)).toNat) := z_at (by first | with_reducible rfl | simp only [zl, iz_add, iz_sub, iz_mul, iz_neg]) (by first | with_reducible rfl | simp only [zl, iz_add, iz_sub, iz_mul, iz_neg]) hi_33 (by decide)
    try rw [e_34]
    exact hp _ _ _ _ hv (by first | with_reducible rfl | simp only [zl, iz_add, iz_sub, iz_mul, iz_neg]) (by first | with_reducible rfl | simp only [zl, iz_add, iz_sub, iz_mul, iz_neg])

def iv_X5_fill (a1 : Int) (a2 : Int) (m_goes : (Nat → Int)) (m_waits : (Nat → Int)) (m_still : (Nat → Int)) (m_cameFrom : (Nat → Int)) (m_cameBy : (Nat → Int)) (post : ((Nat → Int) × (Nat → Int) × (Nat → Int)) → Prop) : Prop :=
  ((0 ≤ a1 ∧ a1 < 366) ∧ (∀ x3_3 : Int, x3_3 = (m_cameBy a1.toNat) → ((sm x3_3 ∧ sm 0) ∧ ((¬ x3_3 = 0 → ((sm x3_3 ∧ sm 1) ∧ ((¬ x3_3 = 1 → ((sm x3_3 ∧ sm 2) ∧ ((¬ x3_3 = 2 → ((sm 20 ∧ sm x3_3) ∧ ((20 ≤ x3_3 → ((zn x3_3) ∧ ((zn a1) ∧ ((0 ≤ ((61 * (x3_3 - x3_3 / 10 * 10)) + (a1 - a1 / 61 * 61)) ∧ ((61 * (x3_3 - x3_3 / 10 * 10)) + (a1 - a1 / 61 * 61)) < 610) ∧ ((0 ≤ ((61 * (x3_3 - x3_3 / 10 * 10)) + (a1 - a1 / 61 * 61)) ∧ ((61 * (x3_3 - x3_3 / 10 * 10)) + (a1 - a1 / 61 * 61)) < 610) ∧ post ((uz m_goes (((61 * (x3_3 - x3_3 / 10 * 10)) + (a1 - a1 / 61 * 61))).toNat ((m_goes (((61 * (x3_3 - x3_3 / 10 * 10)) + (a1 - a1 / 61 * 61))).toNat) - a2)), m_waits, m_still)))))) ∧ (¬ 20 ≤ x3_3 → ((zn x3_3) ∧ ((0 ≤ a1 ∧ a1 < 366) ∧ ((zn (m_cameFrom a1.toNat)) ∧ ((0 ≤ ((61 * (x3_3 - x3_3 / 10 * 10)) + ((m_cameFrom a1.toNat) - (m_cameFrom a1.toNat) / 61 * 61)) ∧ ((61 * (x3_3 - x3_3 / 10 * 10)) + ((m_cameFrom a1.toNat) - (m_cameFrom a1.toNat) / 61 * 61)) < 610) ∧ ((0 ≤ ((61 * (x3_3 - x3_3 / 10 * 10)) + ((m_cameFrom a1.toNat) - (m_cameFrom a1.toNat) / 61 * 61)) ∧ ((61 * (x3_3 - x3_3 / 10 * 10)) + ((m_cameFrom a1.toNat) - (m_cameFrom a1.toNat) / 61 * 61)) < 610) ∧ post ((uz m_goes (((61 * (x3_3 - x3_3 / 10 * 10)) + ((m_cameFrom a1.toNat) - (m_cameFrom a1.toNat) / 61 * 61))).toNat ((m_goes (((61 * (x3_3 - x3_3 / 10 * 10)) + ((m_cameFrom a1.toNat) - (m_cameFrom a1.toNat) / 61 * 61))).toNat) + a2)), m_waits, m_still)))))))))) ∧ (x3_3 = 2 → ((0 ≤ a1 ∧ a1 < 366) ∧ ((0 ≤ a1 ∧ a1 < 366) ∧ post (m_goes, (uz m_waits a1.toNat ((m_waits a1.toNat) - a2)), m_still))))))) ∧ (x3_3 = 1 → ((0 ≤ a1 ∧ a1 < 366) ∧ ((0 ≤ (m_cameFrom a1.toNat) ∧ (m_cameFrom a1.toNat) < 366) ∧ ((0 ≤ (m_cameFrom a1.toNat) ∧ (m_cameFrom a1.toNat) < 366) ∧ post (m_goes, (uz m_waits ((m_cameFrom a1.toNat)).toNat ((m_waits ((m_cameFrom a1.toNat)).toNat) + a2)), m_still)))))))) ∧ (x3_3 = 0 → ((zn a1) ∧ ((0 ≤ (a1 / 61) ∧ (a1 / 61) < 6) ∧ ((0 ≤ (a1 / 61) ∧ (a1 / 61) < 6) ∧ post (m_goes, m_waits, (uz m_still ((a1 / 61)).toNat ((m_still ((a1 / 61)).toNat) - a2)))))))))))

set_option maxHeartbeats 4000000 in
theorem lift_X5_fill {a1' : Int32} {a1 : Int} {a2' : Int32} {a2 : Int} {m_goes' : (Nat → Int32)} {m_goes : (Nat → Int)} {m_waits' : (Nat → Int32)} {m_waits : (Nat → Int)} {m_still' : (Nat → Int32)} {m_still : (Nat → Int)} {m_cameFrom' : (Nat → Int32)} {m_cameFrom : (Nat → Int)} {m_cameBy' : (Nat → Int32)} {m_cameBy : (Nat → Int)} (e_a1 : a1' = iz a1) (e_a2 : a2' = iz a2) (e_m_goes : m_goes' = az m_goes) (e_m_waits : m_waits' = az m_waits) (e_m_still : m_still' = az m_still) (e_m_cameFrom : m_cameFrom' = az m_cameFrom) (e_m_cameBy : m_cameBy' = az m_cameBy) {post0 : ((Nat → Int32) × (Nat → Int32) × (Nat → Int32)) → Prop} {post : ((Nat → Int) × (Nat → Int) × (Nat → Int)) → Prop} (hv : iv_X5_fill a1 a2 m_goes m_waits m_still m_cameFrom m_cameBy post) (hp : ∀ (u : (Nat → Int) × (Nat → Int) × (Nat → Int)) (y : (Nat → Int32) × (Nat → Int32) × (Nat → Int32)), post u → y = (az u.1, az u.2.1, az u.2.2) → post0 y) : vc_X5_fill a1' a2' m_goes' m_waits' m_still' m_cameFrom' m_cameBy' post0 := by
  subst e_a1
  subst e_a2
  subst e_m_goes
  subst e_m_waits
  subst e_m_still
  subst e_m_cameFrom
  subst e_m_cameBy
  rw [iv_X5_fill] at hv
  rw [vc_X5_fill]
  obtain ⟨hi_1, hv⟩ := hv
  refine ⟨z_in (by first | with_reducible rfl | simp only [zl, iz_add, iz_sub, iz_mul, iz_neg]) hi_1 (by decide), ?_⟩
  have e_2 : ((az m_cameBy) ((iz a1)).toNatClampNeg) = iz (m_cameBy a1.toNat) := z_at (by first | with_reducible rfl | simp only [zl, iz_add, iz_sub, iz_mul, iz_neg]) (by first | with_reducible rfl | simp only [zl, iz_add, iz_sub, iz_mul, iz_neg]) hi_1 (by decide)
  try rw [e_2]
  intro y_4 hy_4
  obtain ⟨x3_3, hx3_3⟩ : ∃ z : Int, z = (m_cameBy a1.toNat) := ⟨_, rfl⟩
  have hv := hv x3_3 hx3_3
  have ey_4 : y_4 = iz x3_3 := by rw [hy_4, hx3_3]; try exact (by first | with_reducible rfl | simp only [zl, iz_add, iz_sub, iz_mul, iz_neg])
  subst ey_4
  obtain ⟨hs_5, hv⟩ := hv
  have q_6 := z_eq (x := (iz x3_3)) (a := x3_3) (by first | with_reducible rfl | simp only [zl, iz_add, iz_sub, iz_mul, iz_neg]) (y := 0) (b := 0) (by first | with_reducible rfl | simp only [zl, iz_add, iz_sub, iz_mul, iz_neg]) hs_5.1 hs_5.2
  refine ⟨fun c9 => ?_, fun c9 => ?_⟩
  · have hv := hv.1 (fun z9 => c9 (q_6.mpr z9))
    obtain ⟨hs_7, hv⟩ := hv
    have q_8 := z_eq (x := (iz x3_3)) (a := x3_3) (by first | with_reducible rfl | simp only [zl, iz_add, iz_sub, iz_mul, iz_neg]) (y := 1) (b := 1) (by first | with_reducible rfl | simp only [zl, iz_add, iz_sub, iz_mul, iz_neg]) hs_7.1 hs_7.2
    refine ⟨fun c9 => ?_, fun c9 => ?_⟩
    · have hv := hv.1 (fun z9 => c9 (q_8.mpr z9))
      obtain ⟨hs_9, hv⟩ := hv
      have q_10 := z_eq (x := (iz x3_3)) (a := x3_3) (by first | with_reducible rfl | simp only [zl, iz_add, iz_sub, iz_mul, iz_neg]) (y := 2) (b := 2) (by first | with_reducible rfl | simp only [zl, iz_add, iz_sub, iz_mul, iz_neg]) hs_9.1 hs_9.2
      refine ⟨fun c9 => ?_, fun c9 => ?_⟩
      · have hv := hv.1 (fun z9 => c9 (q_10.mpr z9))
        obtain ⟨hs_11, hv⟩ := hv
        have q_12 := z_le (x := 20) (a := 20) (by first | with_reducible rfl | simp only [zl, iz_add, iz_sub, iz_mul, iz_neg]) (y := (iz x3_3)) (b := x3_3) (by first | with_reducible rfl | simp only [zl, iz_add, iz_sub, iz_mul, iz_neg]) hs_11.1 hs_11.2
        refine ⟨fun c9 => ?_, fun c9 => ?_⟩
        · have hv := hv.1 (q_12.mp c9)
          obtain ⟨hc_13, hv⟩ := hv
          have e_14 : ((iz x3_3) - (iz x3_3) / 10 * 10) = iz (x3_3 - x3_3 / 10 * 10) := z_rem (by first | with_reducible rfl | simp only [zl, iz_add, iz_sub, iz_mul, iz_neg]) hc_13 (by decide) (by decide)
          try rw [e_14]
          obtain ⟨hc_15, hv⟩ := hv
          have e_16 : ((iz a1) - (iz a1) / 61 * 61) = iz (a1 - a1 / 61 * 61) := z_rem (by first | with_reducible rfl | simp only [zl, iz_add, iz_sub, iz_mul, iz_neg]) hc_15 (by decide) (by decide)
          try rw [e_16]
          obtain ⟨hi_17, hv⟩ := hv
          refine ⟨z_in (by first | with_reducible rfl | simp only [zl, iz_add, iz_sub, iz_mul, iz_neg]) hi_17 (by decide), ?_⟩
          have e_18 : ((az m_goes) (((61 * (iz (x3_3 - x3_3 / 10 * 10))) + (iz (a1 - a1 / 61 * 61)))).toNatClampNeg) = iz (m_goes (((61 * (x3_3 - x3_3 / 10 * 10)) + (a1 - a1 / 61 * 61))).toNat) := z_at (by first | with_reducible rfl | simp only [zl, iz_add, iz_sub, iz_mul, iz_neg]) (by first | with_reducible rfl | simp only [zl, iz_add, iz_sub, iz_mul, iz_neg]) hi_17 (by decide)
          try rw [e_18]
          obtain ⟨hi_19, hv⟩ := hv
          refine ⟨z_in (by first | with_reducible rfl | simp only [zl, iz_add, iz_sub, iz_mul, iz_neg]) hi_19 (by decide), ?_⟩
          have e_20 : (upd (az m_goes) (((61 * (iz (x3_3 - x3_3 / 10 * 10))) + (iz (a1 - a1 / 61 * 61)))).toNatClampNeg ((iz (m_goes (((61 * (x3_3 - x3_3 / 10 * 10)) + (a1 - a1 / 61 * 61))).toNat)) - (iz a2))) = az (uz m_goes (((61 * (x3_3 - x3_3 / 10 * 10)) + (a1 - a1 / 61 * 61))).toNat ((m_goes (((61 * (x3_3 - x3_3 / 10 * 10)) + (a1 - a1 / 61 * 61))).toNat) - a2)) := z_upd (by first | with_reducible rfl | simp only [zl, iz_add, iz_sub, iz_mul, iz_neg]) (by first | with_reducible rfl | simp only [zl, iz_add, iz_sub, iz_mul, iz_neg]) (by first | with_reducible rfl | simp only [zl, iz_add, iz_sub, iz_mul, iz_neg]) hi_19 (by decide)
          try rw [e_20]
          exact hp _ _ hv (by first | with_reducible rfl | simp only [zl, iz_add, iz_sub, iz_mul, iz_neg])
        · have hv := hv.2 (fun z9 => c9 (q_12.mpr z9))
          obtain ⟨hc_21, hv⟩ := hv
          have e_22 : ((iz x3_3) - (iz x3_3) / 10 * 10) = iz (x3_3 - x3_3 / 10 * 10) := z_rem (by first | with_reducible rfl | simp only [zl, iz_add, iz_sub, iz_mul, iz_neg]) hc_21 (by decide) (by decide)
          try rw [e_22]
          obtain ⟨hi_23, hv⟩ := hv
          refine ⟨z_in (by first | with_reducible rfl | simp only [zl, iz_add, iz_sub, iz_mul, iz_neg]) hi_23 (by decide), ?_⟩
          have e_24 : ((az m_cameFrom) ((iz a1)).toNatClampNeg) = iz (m_cameFrom a1.toNat) := z_at (by first | with_reducible rfl | simp only [zl, iz_add, iz_sub, iz_mul, iz_neg]) (by first | with_reducible rfl | simp only [zl, iz_add, iz_sub, iz_mul, iz_neg]) hi_23 (by decide)
          try rw [e_24]
          obtain ⟨hc_25, hv⟩ := hv
          have e_26 : ((iz (m_cameFrom a1.toNat)) - (iz (m_cameFrom a1.toNat)) / 61 * 61) = iz ((m_cameFrom a1.toNat) - (m_cameFrom a1.toNat) / 61 * 61) := z_rem (by first | with_reducible rfl | simp only [zl, iz_add, iz_sub, iz_mul, iz_neg]) hc_25 (by decide) (by decide)
          try rw [e_26]
          obtain ⟨hi_27, hv⟩ := hv
          refine ⟨z_in (by first | with_reducible rfl | simp only [zl, iz_add, iz_sub, iz_mul, iz_neg]) hi_27 (by decide), ?_⟩
          have e_28 : ((az m_goes) (((61 * (iz (x3_3 - x3_3 / 10 * 10))) + (iz ((m_cameFrom a1.toNat) - (m_cameFrom a1.toNat) / 61 * 61)))).toNatClampNeg) = iz (m_goes (((61 * (x3_3 - x3_3 / 10 * 10)) + ((m_cameFrom a1.toNat) - (m_cameFrom a1.toNat) / 61 * 61))).toNat) := z_at (by first | with_reducible rfl | simp only [zl, iz_add, iz_sub, iz_mul, iz_neg]) (by first | with_reducible rfl | simp only [zl, iz_add, iz_sub, iz_mul, iz_neg]) hi_27 (by decide)
          try rw [e_28]
          obtain ⟨hi_29, hv⟩ := hv
          refine ⟨z_in (by first | with_reducible rfl | simp only [zl, iz_add, iz_sub, iz_mul, iz_neg]) hi_29 (by decide), ?_⟩
          have e_30 : (upd (az m_goes) (((61 * (iz (x3_3 - x3_3 / 10 * 10))) + (iz ((m_cameFrom a1.toNat) - (m_cameFrom a1.toNat) / 61 * 61)))).toNatClampNeg ((iz (m_goes (((61 * (x3_3 - x3_3 / 10 * 10)) + ((m_cameFrom a1.toNat) - (m_cameFrom a1.toNat) / 61 * 61))).toNat)) + (iz a2))) = az (uz m_goes (((61 * (x3_3 - x3_3 / 10 * 10)) + ((m_cameFrom a1.toNat) - (m_cameFrom a1.toNat) / 61 * 61))).toNat ((m_goes (((61 * (x3_3 - x3_3 / 10 * 10)) + ((m_cameFrom a1.toNat) - (m_cameFrom a1.toNat) / 61 * 61))).toNat) + a2)) := z_upd (by first | with_reducible rfl | simp only [zl, iz_add, iz_sub, iz_mul, iz_neg]) (by first | with_reducible rfl | simp only [zl, iz_add, iz_sub, iz_mul, iz_neg]) (by first | with_reducible rfl | simp only [zl, iz_add, iz_sub, iz_mul, iz_neg]) hi_29 (by decide)
          try rw [e_30]
          exact hp _ _ hv (by first | with_reducible rfl | simp only [zl, iz_add, iz_sub, iz_mul, iz_neg])
      · have hv := hv.2 (q_10.mp c9)
        obtain ⟨hi_31, hv⟩ := hv
        refine ⟨z_in (by first | with_reducible rfl | simp only [zl, iz_add, iz_sub, iz_mul, iz_neg]) hi_31 (by decide), ?_⟩
        have e_32 : ((az m_waits) ((iz a1)).toNatClampNeg) = iz (m_waits a1.toNat) := z_at (by first | with_reducible rfl | simp only [zl, iz_add, iz_sub, iz_mul, iz_neg]) (by first | with_reducible rfl | simp only [zl, iz_add, iz_sub, iz_mul, iz_neg]) hi_31 (by decide)
        try rw [e_32]
        obtain ⟨hi_33, hv⟩ := hv
        refine ⟨z_in (by first | with_reducible rfl | simp only [zl, iz_add, iz_sub, iz_mul, iz_neg]) hi_33 (by decide), ?_⟩
        have e_34 : (upd (az m_waits) ((iz a1)).toNatClampNeg ((iz (m_waits a1.toNat)) - (iz a2))) = az (uz m_waits a1.toNat ((m_waits a1.toNat) - a2)) := z_upd (by first | with_reducible rfl | simp only [zl, iz_add, iz_sub, iz_mul, iz_neg]) (by first | with_reducible rfl | simp only [zl, iz_add, iz_sub, iz_mul, iz_neg]) (by first | with_reducible rfl | simp only [zl, iz_add, iz_sub, iz_mul, iz_neg]) hi_33 (by decide)
        try rw [e_34]
        exact hp _ _ hv (by first | with_reducible rfl | simp only [zl, iz_add, iz_sub, iz_mul, iz_neg])
    · have hv := hv.2 (q_8.mp c9)
      obtain ⟨hi_35, hv⟩ := hv
      refine ⟨z_in (by first | with_reducible rfl | simp only [zl, iz_add, iz_sub, iz_mul, iz_neg]) hi_35 (by decide), ?_⟩
      have e_36 : ((az m_cameFrom) ((iz a1)).toNatClampNeg) = iz (m_cameFrom a1.toNat) := z_at (by first | with_reducible rfl | simp only [zl, iz_add, iz_sub, iz_mul, iz_neg]) (by first | with_reducible rfl | simp only [zl, iz_add, iz_sub, iz_mul, iz_neg]) hi_35 (by decide)
      try rw [e_36]
      obtain ⟨hi_37, hv⟩ := hv
      refine ⟨z_in (by first | with_reducible rfl | simp only [zl, iz_add, iz_sub, iz_mul, iz_neg]) hi_37 (by decide), ?_⟩
      have e_38 : ((az m_waits) ((iz (m_cameFrom a1.toNat))).toNatClampNeg) = iz (m_waits ((m_cameFrom a1.toNat)).toNat) := z_at (by first | with_reducible rfl | simp only [zl, iz_add, iz_sub, iz_mul, iz_neg]) (by first | with_reducible rfl | simp only [zl, iz_add, iz_sub, iz_mul, iz_neg]) hi_37 (by decide)
      try rw [e_38]
      obtain ⟨hi_39, hv⟩ := hv
      refine ⟨z_in (by first | with_reducible rfl | simp only [zl, iz_add, iz_sub, iz_mul, iz_neg]) hi_39 (by decide), ?_⟩
      have e_40 : (upd (az m_waits) ((iz (m_cameFrom a1.toNat))).toNatClampNeg ((iz (m_waits ((m_cameFrom a1.toNat)).toNat)) + (iz a2))) = az (uz m_waits ((m_cameFrom a1.toNat)).toNat ((m_waits ((m_cameFrom a1.toNat)).toNat) + a2)) := z_upd (by first | with_reducible rfl | simp only [zl, iz_add, iz_sub, iz_mul, iz_neg]) (by first | with_reducible rfl | simp only [zl, iz_add, iz_sub, iz_mul, iz_neg]) (by first | with_reducible rfl | simp only [zl, iz_add, iz_sub, iz_mul, iz_neg]) hi_39 (by decide)
      try rw [e_40]
      exact hp _ _ hv (by first | with_reducible rfl | simp only [zl, iz_add, iz_sub, iz_mul, iz_neg])
  · have hv := hv.2 (q_6.mp c9)
    obtain ⟨hc_41, hv⟩ := hv
    have e_42 : ((iz a1) / 61) = iz (a1 / 61) := z_div (by first | with_reducible rfl | simp only [zl, iz_add, iz_sub, iz_mul, iz_neg]) hc_41 (by decide) (by decide)
    try rw [e_42]
    obtain ⟨hi_43, hv⟩ := hv
    refine ⟨z_in (by first | with_reducible rfl | simp only [zl, iz_add, iz_sub, iz_mul, iz_neg]) hi_43 (by decide), ?_⟩
    have e_44 : ((az m_still) ((iz (a1 / 61))).toNatClampNeg) = iz (m_still ((a1 / 61)).toNat) := z_at (by first | with_reducible rfl | simp only [zl, iz_add, iz_sub, iz_mul, iz_neg]) (by first | with_reducible rfl | simp only [zl, iz_add, iz_sub, iz_mul, iz_neg]) hi_43 (by decide)
    try rw [e_44]
    obtain ⟨hi_45, hv⟩ := hv
    refine ⟨z_in (by first | with_reducible rfl | simp only [zl, iz_add, iz_sub, iz_mul, iz_neg]) hi_45 (by decide), ?_⟩
    have e_46 : (upd (az m_still) ((iz (a1 / 61))).toNatClampNeg ((iz (m_still ((a1 / 61)).toNat)) - (iz a2))) = az (uz m_still ((a1 / 61)).toNat ((m_still ((a1 / 61)).toNat) - a2)) := z_upd (by first | with_reducible rfl | simp only [zl, iz_add, iz_sub, iz_mul, iz_neg]) (by first | with_reducible rfl | simp only [zl, iz_add, iz_sub, iz_mul, iz_neg]) (by first | with_reducible rfl | simp only [zl, iz_add, iz_sub, iz_mul, iz_neg]) hi_45 (by decide)
    try rw [e_46]
    exact hp _ _ hv (by first | with_reducible rfl | simp only [zl, iz_add, iz_sub, iz_mul, iz_neg])

def iv_X5_fillWay_L39 (K : Int → Prop) (m_state : (Nat → Int)) (m_goes : (Nat → Int)) (m_waits : (Nat → Int)) (m_still : (Nat → Int)) (m_cameFrom : (Nat → Int)) (m_cameBy : (Nat → Int)) : Nat → Int → Int → Prop
  | 0, _, _ => False
  | n + 1, v1, v2 =>
    ((sm v2 ∧ sm 0) ∧ ((v2 < 0 → K v1) ∧ (¬ v2 < 0 → (iv_X5_roomIn v2 m_state m_goes m_waits m_still m_cameFrom m_cameBy (fun (r_12 : Int) (u_11 : Unit) => ((sm v1 ∧ sm r_12) ∧ ((v1 ≤ r_12 → ((0 ≤ v2 ∧ v2 < 366) ∧ (∀ x2_21 : Int, x2_21 = (m_cameFrom v2.toNat) → iv_X5_fillWay_L39 K m_state m_goes m_waits m_still m_cameFrom m_cameBy n v1 x2_21))) ∧ (¬ v1 ≤ r_12 → ((0 ≤ v2 ∧ v2 < 366) ∧ (∀ x2_25 : Int, x2_25 = (m_cameFrom v2.toNat) → iv_X5_fillWay_L39 K m_state m_goes m_waits m_still m_cameFrom m_cameBy n r_12 x2_25))))))))))

set_option maxHeartbeats 4000000 in
theorem lift_X5_fillWay_L39 {K0 : Int32 → Prop} {K : Int → Prop} {m_state' : (Nat → Int32)} {m_state : (Nat → Int)} {m_goes' : (Nat → Int32)} {m_goes : (Nat → Int)} {m_waits' : (Nat → Int32)} {m_waits : (Nat → Int)} {m_still' : (Nat → Int32)} {m_still : (Nat → Int)} {m_cameFrom' : (Nat → Int32)} {m_cameFrom : (Nat → Int)} {m_cameBy' : (Nat → Int32)} {m_cameBy : (Nat → Int)} (e_m_state : m_state' = az m_state) (e_m_goes : m_goes' = az m_goes) (e_m_waits : m_waits' = az m_waits) (e_m_still : m_still' = az m_still) (e_m_cameFrom : m_cameFrom' = az m_cameFrom) (e_m_cameBy : m_cameBy' = az m_cameBy)  (hKx : ∀ (k1' : Int32) (k1 : Int), K k1 → k1' = iz k1 →  K0 k1') :
    ∀ (n : Nat) (v1' : Int32) (v2' : Int32) (v1 : Int) (v2 : Int) (e_v1 : v1' = iz v1) (e_v2 : v2' = iz v2), iv_X5_fillWay_L39 K m_state m_goes m_waits m_still m_cameFrom m_cameBy n v1 v2 → vc_X5_fillWay_L39 K0 m_state' m_goes' m_waits' m_still' m_cameFrom' m_cameBy' n v1' v2' := by
  subst e_m_state
  subst e_m_goes
  subst e_m_waits
  subst e_m_still
  subst e_m_cameFrom
  subst e_m_cameBy
  intro n
  induction n with
  | zero =>
    intro v1' v2' v1 v2 e_v1 e_v2 hv
    exact False.elim hv
  | succ n ih =>
    intro v1' v2' v1 v2 e_v1 e_v2 hv
    subst e_v1
    subst e_v2
    rw [iv_X5_fillWay_L39] at hv
    rw [vc_X5_fillWay_L39]
    obtain ⟨hs_9, hv⟩ := hv
    have q_10 := z_lt (x := (iz v2)) (a := v2) (by first | with_reducible rfl | simp only [zl, iz_add, iz_sub, iz_mul, iz_neg]) (y := 0) (b := 0) (by first | with_reducible rfl | simp only [zl, iz_add, iz_sub, iz_mul, iz_neg]) hs_9.1 hs_9.2
    refine ⟨fun c9 => ?_, fun c9 => ?_⟩
    · have hv := hv.1 (q_10.mp c9)
      exact hKx _ v1 hv (by first | with_reducible rfl | simp only [zl, iz_add, iz_sub, iz_mul, iz_neg])
    · have hv := hv.2 (fun z9 => c9 (q_10.mpr z9))
      refine lift_X5_roomIn (by first | with_reducible rfl | simp only [zl, iz_add, iz_sub, iz_mul, iz_neg]) (by first | with_reducible rfl | simp only [zl, iz_add, iz_sub, iz_mul, iz_neg]) (by first | with_reducible rfl | simp only [zl, iz_add, iz_sub, iz_mul, iz_neg]) (by first | with_reducible rfl | simp only [zl, iz_add, iz_sub, iz_mul, iz_neg]) (by first | with_reducible rfl | simp only [zl, iz_add, iz_sub, iz_mul, iz_neg]) (by first | with_reducible rfl | simp only [zl, iz_add, iz_sub, iz_mul, iz_neg]) (by first | with_reducible rfl | simp only [zl, iz_add, iz_sub, iz_mul, iz_neg]) hv (fun r_12 u_11 y_13 y_14 hv er_15 eu_16 => ?_)
      subst er_15; subst eu_16
      try dsimp only
      obtain ⟨hs_17, hv⟩ := hv
      have q_18 := z_le (x := (iz v1)) (a := v1) (by first | with_reducible rfl | simp only [zl, iz_add, iz_sub, iz_mul, iz_neg]) (y := (iz r_12)) (b := r_12) (by first | with_reducible rfl | simp only [zl, iz_add, iz_sub, iz_mul, iz_neg]) hs_17.1 hs_17.2
      refine ⟨fun c9 => ?_, fun c9 => ?_⟩
      · have hv := hv.1 (q_18.mp c9)
        obtain ⟨hi_19, hv⟩ := hv
        refine ⟨z_in (by first | with_reducible rfl | simp only [zl, iz_add, iz_sub, iz_mul, iz_neg]) hi_19 (by decide), ?_⟩
        have e_20 : ((az m_cameFrom) ((iz v2)).toNatClampNeg) = iz (m_cameFrom v2.toNat) := z_at (by first | with_reducible rfl | simp only [zl, iz_add, iz_sub, iz_mul, iz_neg]) (by first | with_reducible rfl | simp only [zl, iz_add, iz_sub, iz_mul, iz_neg]) hi_19 (by decide)
        try rw [e_20]
        intro y_22 hy_22
        obtain ⟨x2_21, hx2_21⟩ : ∃ z : Int, z = (m_cameFrom v2.toNat) := ⟨_, rfl⟩
        have hv := hv x2_21 hx2_21
        have ey_22 : y_22 = iz x2_21 := by rw [hy_22, hx2_21]; try exact (by first | with_reducible rfl | simp only [zl, iz_add, iz_sub, iz_mul, iz_neg])
        subst ey_22
        exact ih _ _ v1 x2_21 (by first | with_reducible rfl | simp only [zl, iz_add, iz_sub, iz_mul, iz_neg]) (by first | with_reducible rfl | simp only [zl, iz_add, iz_sub, iz_mul, iz_neg]) hv
      · have hv := hv.2 (fun z9 => c9 (q_18.mpr z9))
        obtain ⟨hi_23, hv⟩ := hv
        refine ⟨z_in (by first | with_reducible rfl | simp only [zl, iz_add, iz_sub, iz_mul, iz_neg]) hi_23 (by decide), ?_⟩
        have e_24 : ((az m_cameFrom) ((iz v2)).toNatClampNeg) = iz (m_cameFrom v2.toNat) := z_at (by first | with_reducible rfl | simp only [zl, iz_add, iz_sub, iz_mul, iz_neg]) (by first | with_reducible rfl | simp only [zl, iz_add, iz_sub, iz_mul, iz_neg]) hi_23 (by decide)
        try rw [e_24]
        intro y_26 hy_26
        obtain ⟨x2_25, hx2_25⟩ : ∃ z : Int, z = (m_cameFrom v2.toNat) := ⟨_, rfl⟩
        have hv := hv x2_25 hx2_25
        have ey_26 : y_26 = iz x2_25 := by rw [hy_26, hx2_25]; try exact (by first | with_reducible rfl | simp only [zl, iz_add, iz_sub, iz_mul, iz_neg])
        subst ey_26
        exact ih _ _ r_12 x2_25 (by first | with_reducible rfl | simp only [zl, iz_add, iz_sub, iz_mul, iz_neg]) (by first | with_reducible rfl | simp only [zl, iz_add, iz_sub, iz_mul, iz_neg]) hv

def iv_X5_fillWay_L99 (K : (Nat → Int) → (Nat → Int) → (Nat → Int) → Prop) (b1 : Int) (m_cameFrom : (Nat → Int)) (m_cameBy : (Nat → Int)) : Nat → Int → (Nat → Int) → (Nat → Int) → (Nat → Int) → Prop
  | 0, _, _, _, _ => False
  | n + 1, v2, m_goes, m_waits, m_still =>
    ((sm v2 ∧ sm 0) ∧ ((v2 < 0 → K m_goes m_waits m_still) ∧ (¬ v2 < 0 → ((0 ≤ v2 ∧ v2 < 366) ∧ (∀ x3_38 : Int, x3_38 = (m_cameFrom v2.toNat) → (iv_X5_fill v2 b1 m_goes m_waits m_still m_cameFrom m_cameBy (fun (u_40 : (Nat → Int) × (Nat → Int) × (Nat → Int)) => iv_X5_fillWay_L99 K b1 m_cameFrom m_cameBy n x3_38 u_40.1 u_40.2.1 u_40.2.2)))))))

set_option maxHeartbeats 4000000 in
theorem lift_X5_fillWay_L99 {K0 : (Nat → Int32) → (Nat → Int32) → (Nat → Int32) → Prop} {K : (Nat → Int) → (Nat → Int) → (Nat → Int) → Prop} {b1' : Int32} {b1 : Int} {m_cameFrom' : (Nat → Int32)} {m_cameFrom : (Nat → Int)} {m_cameBy' : (Nat → Int32)} {m_cameBy : (Nat → Int)} (e_b1 : b1' = iz b1) (e_m_cameFrom : m_cameFrom' = az m_cameFrom) (e_m_cameBy : m_cameBy' = az m_cameBy)  (hKx : ∀ (k_m_goes' : (Nat → Int32)) (k_m_waits' : (Nat → Int32)) (k_m_still' : (Nat → Int32)) (k_m_goes : (Nat → Int)) (k_m_waits : (Nat → Int)) (k_m_still : (Nat → Int)), K k_m_goes k_m_waits k_m_still → k_m_goes' = az k_m_goes → k_m_waits' = az k_m_waits → k_m_still' = az k_m_still →  K0 k_m_goes' k_m_waits' k_m_still') :
    ∀ (n : Nat) (v2' : Int32) (m_goes' : (Nat → Int32)) (m_waits' : (Nat → Int32)) (m_still' : (Nat → Int32)) (v2 : Int) (m_goes : (Nat → Int)) (m_waits : (Nat → Int)) (m_still : (Nat → Int)) (e_v2 : v2' = iz v2) (e_m_goes : m_goes' = az m_goes) (e_m_waits : m_waits' = az m_waits) (e_m_still : m_still' = az m_still), iv_X5_fillWay_L99 K b1 m_cameFrom m_cameBy n v2 m_goes m_waits m_still → vc_X5_fillWay_L99 K0 b1' m_cameFrom' m_cameBy' n v2' m_goes' m_waits' m_still' := by
  subst e_b1
  subst e_m_cameFrom
  subst e_m_cameBy
  intro n
  induction n with
  | zero =>
    intro v2' m_goes' m_waits' m_still' v2 m_goes m_waits m_still e_v2 e_m_goes e_m_waits e_m_still hv
    exact False.elim hv
  | succ n ih =>
    intro v2' m_goes' m_waits' m_still' v2 m_goes m_waits m_still e_v2 e_m_goes e_m_waits e_m_still hv
    subst e_v2
    subst e_m_goes
    subst e_m_waits
    subst e_m_still
    rw [iv_X5_fillWay_L99] at hv
    rw [vc_X5_fillWay_L99]
    obtain ⟨hs_34, hv⟩ := hv
    have q_35 := z_lt (x := (iz v2)) (a := v2) (by first | with_reducible rfl | simp only [zl, iz_add, iz_sub, iz_mul, iz_neg]) (y := 0) (b := 0) (by first | with_reducible rfl | simp only [zl, iz_add, iz_sub, iz_mul, iz_neg]) hs_34.1 hs_34.2
    refine ⟨fun c9 => ?_, fun c9 => ?_⟩
    · have hv := hv.1 (q_35.mp c9)
      exact hKx _ _ _ m_goes m_waits m_still hv (by first | with_reducible rfl | simp only [zl, iz_add, iz_sub, iz_mul, iz_neg]) (by first | with_reducible rfl | simp only [zl, iz_add, iz_sub, iz_mul, iz_neg]) (by first | with_reducible rfl | simp only [zl, iz_add, iz_sub, iz_mul, iz_neg])
    · have hv := hv.2 (fun z9 => c9 (q_35.mpr z9))
      obtain ⟨hi_36, hv⟩ := hv
      refine ⟨z_in (by first | with_reducible rfl | simp only [zl, iz_add, iz_sub, iz_mul, iz_neg]) hi_36 (by decide), ?_⟩
      have e_37 : ((az m_cameFrom) ((iz v2)).toNatClampNeg) = iz (m_cameFrom v2.toNat) := z_at (by first | with_reducible rfl | simp only [zl, iz_add, iz_sub, iz_mul, iz_neg]) (by first | with_reducible rfl | simp only [zl, iz_add, iz_sub, iz_mul, iz_neg]) hi_36 (by decide)
      try rw [e_37]
      intro y_39 hy_39
      obtain ⟨x3_38, hx3_38⟩ : ∃ z : Int, z = (m_cameFrom v2.toNat) := ⟨_, rfl⟩
      have hv := hv x3_38 hx3_38
      have ey_39 : y_39 = iz x3_38 := by rw [hy_39, hx3_38]; try exact (by first | with_reducible rfl | simp only [zl, iz_add, iz_sub, iz_mul, iz_neg])
      subst ey_39
      refine lift_X5_fill (by first | with_reducible rfl | simp only [zl, iz_add, iz_sub, iz_mul, iz_neg]) (by first | with_reducible rfl | simp only [zl, iz_add, iz_sub, iz_mul, iz_neg]) (by first | with_reducible rfl | simp only [zl, iz_add, iz_sub, iz_mul, iz_neg]) (by first | with_reducible rfl | simp only [zl, iz_add, iz_sub, iz_mul, iz_neg]) (by first | with_reducible rfl | simp only [zl, iz_add, iz_sub, iz_mul, iz_neg]) (by first | with_reducible rfl | simp only [zl, iz_add, iz_sub, iz_mul, iz_neg]) (by first | with_reducible rfl | simp only [zl, iz_add, iz_sub, iz_mul, iz_neg]) hv (fun u_40 y_42 hv eu_44 => ?_)
      subst eu_44
      try dsimp only
      exact ih _ _ _ _ x3_38 u_40.1 u_40.2.1 u_40.2.2 (by first | with_reducible rfl | simp only [zl, iz_add, iz_sub, iz_mul, iz_neg]) (by first | with_reducible rfl | simp only [zl, iz_add, iz_sub, iz_mul, iz_neg]) (by first | with_reducible rfl | simp only [zl, iz_add, iz_sub, iz_mul, iz_neg]) (by first | with_reducible rfl | simp only [zl, iz_add, iz_sub, iz_mul, iz_neg]) hv

def iv_X5_fillWay (m_state : (Nat → Int)) (m_goes : (Nat → Int)) (m_waits : (Nat → Int)) (m_still : (Nat → Int)) (m_cameFrom : (Nat → Int)) (m_cameBy : (Nat → Int)) (m_goal : Int) (m_goalBy : Int) (post : Int → ((Nat → Int) × (Nat → Int) × (Nat → Int)) → Prop) : Prop :=
  ((0 ≤ (38 + m_goalBy) ∧ (38 + m_goalBy) < 69) ∧ ((zn m_goal) ∧ ((0 ≤ ((61 * m_goalBy) + (m_goal - m_goal / 61 * 61)) ∧ ((61 * m_goalBy) + (m_goal - m_goal / 61 * 61)) < 610) ∧ (∀ x1_7 : Int, x1_7 = ((m_state ((38 + m_goalBy)).toNat) - (m_goes (((61 * m_goalBy) + (m_goal - m_goal / 61 * 61))).toNat)) → (∃ n_55, iv_X5_fillWay_L39 (fun k1_27 => ((zn m_goal) ∧ ((0 ≤ ((61 * m_goalBy) + (m_goal - m_goal / 61 * 61)) ∧ ((61 * m_goalBy) + (m_goal - m_goal / 61 * 61)) < 610) ∧ ((0 ≤ ((61 * m_goalBy) + (m_goal - m_goal / 61 * 61)) ∧ ((61 * m_goalBy) + (m_goal - m_goal / 61 * 61)) < 610) ∧ (∃ n_48, iv_X5_fillWay_L99 (fun m_goes_45 m_waits_46 m_still_47 => post k1_27 (m_goes_45, m_waits_46, m_still_47))  k1_27 m_cameFrom m_cameBy n_48 m_goal (uz m_goes (((61 * m_goalBy) + (m_goal - m_goal / 61 * 61))).toNat ((m_goes (((61 * m_goalBy) + (m_goal - m_goal / 61 * 61))).toNat) + k1_27)) m_waits m_still)))))  m_state m_goes m_waits m_still m_cameFrom m_cameBy n_55 x1_7 m_goal)))))

set_option maxHeartbeats 4000000 in
theorem lift_X5_fillWay {m_state' : (Nat → Int32)} {m_state : (Nat → Int)} {m_goes' : (Nat → Int32)} {m_goes : (Nat → Int)} {m_waits' : (Nat → Int32)} {m_waits : (Nat → Int)} {m_still' : (Nat → Int32)} {m_still : (Nat → Int)} {m_cameFrom' : (Nat → Int32)} {m_cameFrom : (Nat → Int)} {m_cameBy' : (Nat → Int32)} {m_cameBy : (Nat → Int)} {m_goal' : Int32} {m_goal : Int} {m_goalBy' : Int32} {m_goalBy : Int} (e_m_state : m_state' = az m_state) (e_m_goes : m_goes' = az m_goes) (e_m_waits : m_waits' = az m_waits) (e_m_still : m_still' = az m_still) (e_m_cameFrom : m_cameFrom' = az m_cameFrom) (e_m_cameBy : m_cameBy' = az m_cameBy) (e_m_goal : m_goal' = iz m_goal) (e_m_goalBy : m_goalBy' = iz m_goalBy) {post0 : Int32 → ((Nat → Int32) × (Nat → Int32) × (Nat → Int32)) → Prop} {post : Int → ((Nat → Int) × (Nat → Int) × (Nat → Int)) → Prop} (hv : iv_X5_fillWay m_state m_goes m_waits m_still m_cameFrom m_cameBy m_goal m_goalBy post) (hp : ∀ (r : Int) (u : (Nat → Int) × (Nat → Int) × (Nat → Int)) (x : Int32) (y : (Nat → Int32) × (Nat → Int32) × (Nat → Int32)), post r u → x = iz r → y = (az u.1, az u.2.1, az u.2.2) → post0 x y) : vc_X5_fillWay m_state' m_goes' m_waits' m_still' m_cameFrom' m_cameBy' m_goal' m_goalBy' post0 := by
  subst e_m_state
  subst e_m_goes
  subst e_m_waits
  subst e_m_still
  subst e_m_cameFrom
  subst e_m_cameBy
  subst e_m_goal
  subst e_m_goalBy
  rw [iv_X5_fillWay] at hv
  rw [vc_X5_fillWay]
  obtain ⟨hi_1, hv⟩ := hv
  refine ⟨z_in (by first | with_reducible rfl | simp only [zl, iz_add, iz_sub, iz_mul, iz_neg]) hi_1 (by decide), ?_⟩
  have e_2 : ((az m_state) ((38 + (iz m_goalBy))).toNatClampNeg) = iz (m_state ((38 + m_goalBy)).toNat) := z_at (by first | with_reducible rfl | simp only [zl, iz_add, iz_sub, iz_mul, iz_neg]) (by first | with_reducible rfl | simp only [zl, iz_add, iz_sub, iz_mul, iz_neg]) hi_1 (by decide)
  try rw [e_2]
  obtain ⟨hc_3, hv⟩ := hv
  have e_4 : ((iz m_goal) - (iz m_goal) / 61 * 61) = iz (m_goal - m_goal / 61 * 61) := z_rem (by first | with_reducible rfl | simp only [zl, iz_add, iz_sub, iz_mul, iz_neg]) hc_3 (by decide) (by decide)
  try rw [e_4]
  obtain ⟨hi_5, hv⟩ := hv
  refine ⟨z_in (by first | with_reducible rfl | simp only [zl, iz_add, iz_sub, iz_mul, iz_neg]) hi_5 (by decide), ?_⟩
  have e_6 : ((az m_goes) (((61 * (iz m_goalBy)) + (iz (m_goal - m_goal / 61 * 61)))).toNatClampNeg) = iz (m_goes (((61 * m_goalBy) + (m_goal - m_goal / 61 * 61))).toNat) := z_at (by first | with_reducible rfl | simp only [zl, iz_add, iz_sub, iz_mul, iz_neg]) (by first | with_reducible rfl | simp only [zl, iz_add, iz_sub, iz_mul, iz_neg]) hi_5 (by decide)
  try rw [e_6]
  intro y_8 hy_8
  obtain ⟨x1_7, hx1_7⟩ : ∃ z : Int, z = ((m_state ((38 + m_goalBy)).toNat) - (m_goes (((61 * m_goalBy) + (m_goal - m_goal / 61 * 61))).toNat)) := ⟨_, rfl⟩
  have hv := hv x1_7 hx1_7
  have ey_8 : y_8 = iz x1_7 := by rw [hy_8, hx1_7]; try exact (by first | with_reducible rfl | simp only [zl, iz_add, iz_sub, iz_mul, iz_neg])
  subst ey_8
  obtain ⟨n_55, hv⟩ := hv
  refine ⟨n_55, lift_X5_fillWay_L39 (by first | with_reducible rfl | simp only [zl, iz_add, iz_sub, iz_mul, iz_neg]) (by first | with_reducible rfl | simp only [zl, iz_add, iz_sub, iz_mul, iz_neg]) (by first | with_reducible rfl | simp only [zl, iz_add, iz_sub, iz_mul, iz_neg]) (by first | with_reducible rfl | simp only [zl, iz_add, iz_sub, iz_mul, iz_neg]) (by first | with_reducible rfl | simp only [zl, iz_add, iz_sub, iz_mul, iz_neg]) (by first | with_reducible rfl | simp only [zl, iz_add, iz_sub, iz_mul, iz_neg]) (fun y_56 k1_27 hv ey_57 => ?_)  n_55 _ _ x1_7 m_goal (by first | with_reducible rfl | simp only [zl, iz_add, iz_sub, iz_mul, iz_neg]) (by first | with_reducible rfl | simp only [zl, iz_add, iz_sub, iz_mul, iz_neg]) hv⟩
  subst ey_57
  obtain ⟨hc_28, hv⟩ := hv
  have e_29 : ((iz m_goal) - (iz m_goal) / 61 * 61) = iz (m_goal - m_goal / 61 * 61) := z_rem (by first | with_reducible rfl | simp only [zl, iz_add, iz_sub, iz_mul, iz_neg]) hc_28 (by decide) (by decide)
  try rw [e_29]
  obtain ⟨hi_30, hv⟩ := hv
  refine ⟨z_in (by first | with_reducible rfl | simp only [zl, iz_add, iz_sub, iz_mul, iz_neg]) hi_30 (by decide), ?_⟩
  have e_31 : ((az m_goes) (((61 * (iz m_goalBy)) + (iz (m_goal - m_goal / 61 * 61)))).toNatClampNeg) = iz (m_goes (((61 * m_goalBy) + (m_goal - m_goal / 61 * 61))).toNat) := z_at (by first | with_reducible rfl | simp only [zl, iz_add, iz_sub, iz_mul, iz_neg]) (by first | with_reducible rfl | simp only [zl, iz_add, iz_sub, iz_mul, iz_neg]) hi_30 (by decide)
  try rw [e_31]
  obtain ⟨hi_32, hv⟩ := hv
  refine ⟨z_in (by first | with_reducible rfl | simp only [zl, iz_add, iz_sub, iz_mul, iz_neg]) hi_32 (by decide), ?_⟩
  have e_33 : (upd (az m_goes) (((61 * (iz m_goalBy)) + (iz (m_goal - m_goal / 61 * 61)))).toNatClampNeg ((iz (m_goes (((61 * m_goalBy) + (m_goal - m_goal / 61 * 61))).toNat)) + (iz k1_27))) = az (uz m_goes (((61 * m_goalBy) + (m_goal - m_goal / 61 * 61))).toNat ((m_goes (((61 * m_goalBy) + (m_goal - m_goal / 61 * 61))).toNat) + k1_27)) := z_upd (by first | with_reducible rfl | simp only [zl, iz_add, iz_sub, iz_mul, iz_neg]) (by first | with_reducible rfl | simp only [zl, iz_add, iz_sub, iz_mul, iz_neg]) (by first | with_reducible rfl | simp only [zl, iz_add, iz_sub, iz_mul, iz_neg]) hi_32 (by decide)
  try rw [e_33]
  obtain ⟨n_48, hv⟩ := hv
  refine ⟨n_48, lift_X5_fillWay_L99 (by first | with_reducible rfl | simp only [zl, iz_add, iz_sub, iz_mul, iz_neg]) (by first | with_reducible rfl | simp only [zl, iz_add, iz_sub, iz_mul, iz_neg]) (by first | with_reducible rfl | simp only [zl, iz_add, iz_sub, iz_mul, iz_neg]) (fun y_49 y_50 y_51 m_goes_45 m_waits_46 m_still_47 hv ey_52 ey_53 ey_54 => ?_)  n_48 _ _ _ _ m_goal (uz m_goes (((61 * m_goalBy) + (m_goal - m_goal / 61 * 61))).toNat ((m_goes (((61 * m_goalBy) + (m_goal - m_goal / 61 * 61))).toNat) + k1_27)) m_waits m_still (by first | with_reducible rfl | simp only [zl, iz_add, iz_sub, iz_mul, iz_neg]) (by first | with_reducible rfl | simp only [zl, iz_add, iz_sub, iz_mul, iz_neg]) (by first | with_reducible rfl | simp only [zl, iz_add, iz_sub, iz_mul, iz_neg]) (by first | with_reducible rfl | simp only [zl, iz_add, iz_sub, iz_mul, iz_neg]) hv⟩
  subst ey_52
  subst ey_53
  subst ey_54
  exact hp _ _ _ _ hv (by first | with_reducible rfl | simp only [zl, iz_add, iz_sub, iz_mul, iz_neg]) (by first | with_reducible rfl | simp only [zl, iz_add, iz_sub, iz_mul, iz_neg])

def iv_X5_outBy_L9 (K : Int → Prop) (m_state : (Nat → Int)) : Nat → Int → Int → Prop
  | 0, _, _ => False
  | n + 1, v2, v3 =>
    ((sm 6 ∧ sm v3) ∧ ((6 ≤ v3 → K v2) ∧ (¬ 6 ≤ v3 → (iv_X5_isSafe v3 m_state (fun (r_9 : Int) (u_8 : Unit) => ((sm r_9 ∧ sm 0) ∧ ((r_9 = 0 → (∀ x2_16 : Int, x2_16 = (v2 + 0) → (∀ x3_18 : Int, x3_18 = v3 + 1 → iv_X5_outBy_L9 K m_state n x2_16 x3_18))) ∧ (¬ r_9 = 0 → ((0 ≤ (0 + v3) ∧ (0 + v3) < 69) ∧ (∀ x2_22 : Int, x2_22 = (v2 + (m_state ((0 + v3)).toNat)) → (∀ x3_24 : Int, x3_24 = v3 + 1 → iv_X5_outBy_L9 K m_state n x2_22 x3_24)))))))))))

set_option maxHeartbeats 4000000 in
theorem lift_X5_outBy_L9 {K0 : Int32 → Prop} {K : Int → Prop} {m_state' : (Nat → Int32)} {m_state : (Nat → Int)} (e_m_state : m_state' = az m_state)  (hKx : ∀ (k2' : Int32) (k2 : Int), K k2 → k2' = iz k2 →  K0 k2') :
    ∀ (n : Nat) (v2' : Int32) (v3' : Int32) (v2 : Int) (v3 : Int) (e_v2 : v2' = iz v2) (e_v3 : v3' = iz v3), iv_X5_outBy_L9 K m_state n v2 v3 → vc_X5_outBy_L9 K0 m_state' n v2' v3' := by
  subst e_m_state
  intro n
  induction n with
  | zero =>
    intro v2' v3' v2 v3 e_v2 e_v3 hv
    exact False.elim hv
  | succ n ih =>
    intro v2' v3' v2 v3 e_v2 e_v3 hv
    subst e_v2
    subst e_v3
    rw [iv_X5_outBy_L9] at hv
    rw [vc_X5_outBy_L9]
    obtain ⟨hs_6, hv⟩ := hv
    have q_7 := z_le (x := 6) (a := 6) (by first | with_reducible rfl | simp only [zl, iz_add, iz_sub, iz_mul, iz_neg]) (y := (iz v3)) (b := v3) (by first | with_reducible rfl | simp only [zl, iz_add, iz_sub, iz_mul, iz_neg]) hs_6.1 hs_6.2
    refine ⟨fun c9 => ?_, fun c9 => ?_⟩
    · have hv := hv.1 (q_7.mp c9)
      exact hKx _ v2 hv (by first | with_reducible rfl | simp only [zl, iz_add, iz_sub, iz_mul, iz_neg])
    · have hv := hv.2 (fun z9 => c9 (q_7.mpr z9))
      refine lift_X5_isSafe (by first | with_reducible rfl | simp only [zl, iz_add, iz_sub, iz_mul, iz_neg]) (by first | with_reducible rfl | simp only [zl, iz_add, iz_sub, iz_mul, iz_neg]) hv (fun r_9 u_8 y_10 y_11 hv er_12 eu_13 => ?_)
      subst er_12; subst eu_13
      try dsimp only
      obtain ⟨hs_14, hv⟩ := hv
      have q_15 := z_eq (x := (iz r_9)) (a := r_9) (by first | with_reducible rfl | simp only [zl, iz_add, iz_sub, iz_mul, iz_neg]) (y := 0) (b := 0) (by first | with_reducible rfl | simp only [zl, iz_add, iz_sub, iz_mul, iz_neg]) hs_14.1 hs_14.2
      refine ⟨fun c9 => ?_, fun c9 => ?_⟩
      · have hv := hv.1 (q_15.mp c9)
        intro y_17 hy_17
        obtain ⟨x2_16, hx2_16⟩ : ∃ z : Int, z = (v2 + 0) := ⟨_, rfl⟩
        have hv := hv x2_16 hx2_16
        have ey_17 : y_17 = iz x2_16 := by rw [hy_17, hx2_16]; try exact (by first | with_reducible rfl | simp only [zl, iz_add, iz_sub, iz_mul, iz_neg])
        subst ey_17
        intro y_19 hy_19
        obtain ⟨x3_18, hx3_18⟩ : ∃ z : Int, z = v3 + 1 := ⟨_, rfl⟩
        have hv := hv x3_18 hx3_18
        have ey_19 : y_19 = iz x3_18 := by rw [hy_19, hx3_18]; try exact (by first | with_reducible rfl | simp only [zl, iz_add, iz_sub, iz_mul, iz_neg])
        subst ey_19
        exact ih _ _ x2_16 x3_18 (by first | with_reducible rfl | simp only [zl, iz_add, iz_sub, iz_mul, iz_neg]) (by first | with_reducible rfl | simp only [zl, iz_add, iz_sub, iz_mul, iz_neg]) hv
      · have hv := hv.2 (fun z9 => c9 (q_15.mpr z9))
        obtain ⟨hi_20, hv⟩ := hv
        refine ⟨z_in (by first | with_reducible rfl | simp only [zl, iz_add, iz_sub, iz_mul, iz_neg]) hi_20 (by decide), ?_⟩
        have e_21 : ((az m_state) ((0 + (iz v3))).toNatClampNeg) = iz (m_state ((0 + v3)).toNat) := z_at (by first | with_reducible rfl | simp only [zl, iz_add, iz_sub, iz_mul, iz_neg]) (by first | with_reducible rfl | simp only [zl, iz_add, iz_sub, iz_mul, iz_neg]) hi_20 (by decide)
        try rw [e_21]
        intro y_23 hy_23
        obtain ⟨x2_22, hx2_22⟩ : ∃ z : Int, z = (v2 + (m_state ((0 + v3)).toNat)) := ⟨_, rfl⟩
        have hv := hv x2_22 hx2_22
        have ey_23 : y_23 = iz x2_22 := by rw [hy_23, hx2_22]; try exact (by first | with_reducible rfl | simp only [zl, iz_add, iz_sub, iz_mul, iz_neg])
        subst ey_23
        intro y_25 hy_25
        obtain ⟨x3_24, hx3_24⟩ : ∃ z : Int, z = v3 + 1 := ⟨_, rfl⟩
        have hv := hv x3_24 hx3_24
        have ey_25 : y_25 = iz x3_24 := by rw [hy_25, hx3_24]; try exact (by first | with_reducible rfl | simp only [zl, iz_add, iz_sub, iz_mul, iz_neg])
        subst ey_25
        exact ih _ _ x2_22 x3_24 (by first | with_reducible rfl | simp only [zl, iz_add, iz_sub, iz_mul, iz_neg]) (by first | with_reducible rfl | simp only [zl, iz_add, iz_sub, iz_mul, iz_neg]) hv

def iv_X5_outBy_L44 (K : Int → (Nat → Int) → (Nat → Int) → (Nat → Int) → (Nat → Int) → (Nat → Int) → (Nat → Int) → Int → Int → Int → Prop) (m_state : (Nat → Int)) (m_until : Int) : Nat → Int → (Nat → Int) → (Nat → Int) → (Nat → Int) → (Nat → Int) → (Nat → Int) → (Nat → Int) → Int → Int → Int → Prop
  | 0, _, _, _, _, _, _, _, _, _, _ => False
  | n + 1, v2, m_goes, m_waits, m_still, m_cameFrom, m_cameBy, m_wave, m_waved, m_goal, m_goalBy =>
    (iv_X5_findWay m_state m_goes m_waits m_still m_cameFrom m_cameBy m_wave m_waved m_goal m_goalBy m_until (fun (r_28 : Int) (u_27 : (Nat → Int) × (Nat → Int) × (Nat → Int) × Int × Int × Int) => ((sm r_28 ∧ sm 0) ∧ ((r_28 = 0 → K v2 m_goes m_waits m_still u_27.1 u_27.2.1 u_27.2.2.1 u_27.2.2.2.1 u_27.2.2.2.2.1 u_27.2.2.2.2.2) ∧ (¬ r_28 = 0 → (iv_X5_fillWay m_state m_goes m_waits m_still u_27.1 u_27.2.1 u_27.2.2.2.2.1 u_27.2.2.2.2.2 (fun (r_36 : Int) (u_35 : (Nat → Int) × (Nat → Int) × (Nat → Int)) => (∀ x2_41 : Int, x2_41 = (v2 + r_36) → iv_X5_outBy_L44 K m_state m_until n x2_41 u_35.1 u_35.2.1 u_35.2.2 u_27.1 u_27.2.1 u_27.2.2.1 u_27.2.2.2.1 u_27.2.2.2.2.1 u_27.2.2.2.2.2))))))))

set_option maxHeartbeats 4000000 in
theorem lift_X5_outBy_L44 {K0 : Int32 → (Nat → Int32) → (Nat → Int32) → (Nat → Int32) → (Nat → Int32) → (Nat → Int32) → (Nat → Int32) → Int32 → Int32 → Int32 → Prop} {K : Int → (Nat → Int) → (Nat → Int) → (Nat → Int) → (Nat → Int) → (Nat → Int) → (Nat → Int) → Int → Int → Int → Prop} {m_state' : (Nat → Int32)} {m_state : (Nat → Int)} {m_until' : Int32} {m_until : Int} (e_m_state : m_state' = az m_state) (e_m_until : m_until' = iz m_until)  (hKx : ∀ (k2' : Int32) (k_m_goes' : (Nat → Int32)) (k_m_waits' : (Nat → Int32)) (k_m_still' : (Nat → Int32)) (k_m_cameFrom' : (Nat → Int32)) (k_m_cameBy' : (Nat → Int32)) (k_m_wave' : (Nat → Int32)) (k_m_waved' : Int32) (k_m_goal' : Int32) (k_m_goalBy' : Int32) (k2 : Int) (k_m_goes : (Nat → Int)) (k_m_waits : (Nat → Int)) (k_m_still : (Nat → Int)) (k_m_cameFrom : (Nat → Int)) (k_m_cameBy : (Nat → Int)) (k_m_wave : (Nat → Int)) (k_m_waved : Int) (k_m_goal : Int) (k_m_goalBy : Int), K k2 k_m_goes k_m_waits k_m_still k_m_cameFrom k_m_cameBy k_m_wave k_m_waved k_m_goal k_m_goalBy → k2' = iz k2 → k_m_goes' = az k_m_goes → k_m_waits' = az k_m_waits → k_m_still' = az k_m_still → k_m_cameFrom' = az k_m_cameFrom → k_m_cameBy' = az k_m_cameBy → k_m_wave' = az k_m_wave → k_m_waved' = iz k_m_waved → k_m_goal' = iz k_m_goal → k_m_goalBy' = iz k_m_goalBy →  K0 k2' k_m_goes' k_m_waits' k_m_still' k_m_cameFrom' k_m_cameBy' k_m_wave' k_m_waved' k_m_goal' k_m_goalBy') :
    ∀ (n : Nat) (v2' : Int32) (m_goes' : (Nat → Int32)) (m_waits' : (Nat → Int32)) (m_still' : (Nat → Int32)) (m_cameFrom' : (Nat → Int32)) (m_cameBy' : (Nat → Int32)) (m_wave' : (Nat → Int32)) (m_waved' : Int32) (m_goal' : Int32) (m_goalBy' : Int32) (v2 : Int) (m_goes : (Nat → Int)) (m_waits : (Nat → Int)) (m_still : (Nat → Int)) (m_cameFrom : (Nat → Int)) (m_cameBy : (Nat → Int)) (m_wave : (Nat → Int)) (m_waved : Int) (m_goal : Int) (m_goalBy : Int) (e_v2 : v2' = iz v2) (e_m_goes : m_goes' = az m_goes) (e_m_waits : m_waits' = az m_waits) (e_m_still : m_still' = az m_still) (e_m_cameFrom : m_cameFrom' = az m_cameFrom) (e_m_cameBy : m_cameBy' = az m_cameBy) (e_m_wave : m_wave' = az m_wave) (e_m_waved : m_waved' = iz m_waved) (e_m_goal : m_goal' = iz m_goal) (e_m_goalBy : m_goalBy' = iz m_goalBy), iv_X5_outBy_L44 K m_state m_until n v2 m_goes m_waits m_still m_cameFrom m_cameBy m_wave m_waved m_goal m_goalBy → vc_X5_outBy_L44 K0 m_state' m_until' n v2' m_goes' m_waits' m_still' m_cameFrom' m_cameBy' m_wave' m_waved' m_goal' m_goalBy' := by
  subst e_m_state
  subst e_m_until
  intro n
  induction n with
  | zero =>
    intro v2' m_goes' m_waits' m_still' m_cameFrom' m_cameBy' m_wave' m_waved' m_goal' m_goalBy' v2 m_goes m_waits m_still m_cameFrom m_cameBy m_wave m_waved m_goal m_goalBy e_v2 e_m_goes e_m_waits e_m_still e_m_cameFrom e_m_cameBy e_m_wave e_m_waved e_m_goal e_m_goalBy hv
    exact False.elim hv
  | succ n ih =>
    intro v2' m_goes' m_waits' m_still' m_cameFrom' m_cameBy' m_wave' m_waved' m_goal' m_goalBy' v2 m_goes m_waits m_still m_cameFrom m_cameBy m_wave m_waved m_goal m_goalBy e_v2 e_m_goes e_m_waits e_m_still e_m_cameFrom e_m_cameBy e_m_wave e_m_waved e_m_goal e_m_goalBy hv
    subst e_v2
    subst e_m_goes
    subst e_m_waits
    subst e_m_still
    subst e_m_cameFrom
    subst e_m_cameBy
    subst e_m_wave
    subst e_m_waved
    subst e_m_goal
    subst e_m_goalBy
    rw [iv_X5_outBy_L44] at hv
    rw [vc_X5_outBy_L44]
    refine lift_X5_findWay (by first | with_reducible rfl | simp only [zl, iz_add, iz_sub, iz_mul, iz_neg]) (by first | with_reducible rfl | simp only [zl, iz_add, iz_sub, iz_mul, iz_neg]) (by first | with_reducible rfl | simp only [zl, iz_add, iz_sub, iz_mul, iz_neg]) (by first | with_reducible rfl | simp only [zl, iz_add, iz_sub, iz_mul, iz_neg]) (by first | with_reducible rfl | simp only [zl, iz_add, iz_sub, iz_mul, iz_neg]) (by first | with_reducible rfl | simp only [zl, iz_add, iz_sub, iz_mul, iz_neg]) (by first | with_reducible rfl | simp only [zl, iz_add, iz_sub, iz_mul, iz_neg]) (by first | with_reducible rfl | simp only [zl, iz_add, iz_sub, iz_mul, iz_neg]) (by first | with_reducible rfl | simp only [zl, iz_add, iz_sub, iz_mul, iz_neg]) (by first | with_reducible rfl | simp only [zl, iz_add, iz_sub, iz_mul, iz_neg]) (by first | with_reducible rfl | simp only [zl, iz_add, iz_sub, iz_mul, iz_neg]) hv (fun r_28 u_27 y_29 y_30 hv er_31 eu_32 => ?_)
    subst er_31; subst eu_32
    try dsimp only
    obtain ⟨hs_33, hv⟩ := hv
    have q_34 := z_eq (x := (iz r_28)) (a := r_28) (by first | with_reducible rfl | simp only [zl, iz_add, iz_sub, iz_mul, iz_neg]) (y := 0) (b := 0) (by first | with_reducible rfl | simp only [zl, iz_add, iz_sub, iz_mul, iz_neg]) hs_33.1 hs_33.2
    refine ⟨fun c9 => ?_, fun c9 => ?_⟩
    · have hv := hv.1 (q_34.mp c9)
      exact hKx _ _ _ _ _ _ _ _ _ _ v2 m_goes m_waits m_still u_27.1 u_27.2.1 u_27.2.2.1 u_27.2.2.2.1 u_27.2.2.2.2.1 u_27.2.2.2.2.2 hv (by first | with_reducible rfl | simp only [zl, iz_add, iz_sub, iz_mul, iz_neg]) (by first | with_reducible rfl | simp only [zl, iz_add, iz_sub, iz_mul, iz_neg]) (by first | with_reducible rfl | simp only [zl, iz_add, iz_sub, iz_mul, iz_neg]) (by first | with_reducible rfl | simp only [zl, iz_add, iz_sub, iz_mul, iz_neg]) (by first | with_reducible rfl | simp only [zl, iz_add, iz_sub, iz_mul, iz_neg]) (by first | with_reducible rfl | simp only [zl, iz_add, iz_sub, iz_mul, iz_neg]) (by first | with_reducible rfl | simp only [zl, iz_add, iz_sub, iz_mul, iz_neg]) (by first | with_reducible rfl | simp only [zl, iz_add, iz_sub, iz_mul, iz_neg]) (by first | with_reducible rfl | simp only [zl, iz_add, iz_sub, iz_mul, iz_neg]) (by first | with_reducible rfl | simp only [zl, iz_add, iz_sub, iz_mul, iz_neg])
    · have hv := hv.2 (fun z9 => c9 (q_34.mpr z9))
      refine lift_X5_fillWay (by first | with_reducible rfl | simp only [zl, iz_add, iz_sub, iz_mul, iz_neg]) (by first | with_reducible rfl | simp only [zl, iz_add, iz_sub, iz_mul, iz_neg]) (by first | with_reducible rfl | simp only [zl, iz_add, iz_sub, iz_mul, iz_neg]) (by first | with_reducible rfl | simp only [zl, iz_add, iz_sub, iz_mul, iz_neg]) (by first | with_reducible rfl | simp only [zl, iz_add, iz_sub, iz_mul, iz_neg]) (by first | with_reducible rfl | simp only [zl, iz_add, iz_sub, iz_mul, iz_neg]) (by first | with_reducible rfl | simp only [zl, iz_add, iz_sub, iz_mul, iz_neg]) (by first | with_reducible rfl | simp only [zl, iz_add, iz_sub, iz_mul, iz_neg]) hv (fun r_36 u_35 y_37 y_38 hv er_39 eu_40 => ?_)
      subst er_39; subst eu_40
      try dsimp only
      intro y_42 hy_42
      obtain ⟨x2_41, hx2_41⟩ : ∃ z : Int, z = (v2 + r_36) := ⟨_, rfl⟩
      have hv := hv x2_41 hx2_41
      have ey_42 : y_42 = iz x2_41 := by rw [hy_42, hx2_41]; try exact (by first | with_reducible rfl | simp only [zl, iz_add, iz_sub, iz_mul, iz_neg])
      subst ey_42
      exact ih _ _ _ _ _ _ _ _ _ _ x2_41 u_35.1 u_35.2.1 u_35.2.2 u_27.1 u_27.2.1 u_27.2.2.1 u_27.2.2.2.1 u_27.2.2.2.2.1 u_27.2.2.2.2.2 (by first | with_reducible rfl | simp only [zl, iz_add, iz_sub, iz_mul, iz_neg]) (by first | with_reducible rfl | simp only [zl, iz_add, iz_sub, iz_mul, iz_neg]) (by first | with_reducible rfl | simp only [zl, iz_add, iz_sub, iz_mul, iz_neg]) (by first | with_reducible rfl | simp only [zl, iz_add, iz_sub, iz_mul, iz_neg]) (by first | with_reducible rfl | simp only [zl, iz_add, iz_sub, iz_mul, iz_neg]) (by first | with_reducible rfl | simp only [zl, iz_add, iz_sub, iz_mul, iz_neg]) (by first | with_reducible rfl | simp only [zl, iz_add, iz_sub, iz_mul, iz_neg]) (by first | with_reducible rfl | simp only [zl, iz_add, iz_sub, iz_mul, iz_neg]) (by first | with_reducible rfl | simp only [zl, iz_add, iz_sub, iz_mul, iz_neg]) (by first | with_reducible rfl | simp only [zl, iz_add, iz_sub, iz_mul, iz_neg]) hv

def iv_X5_outBy (a1 : Int) (m_state : (Nat → Int)) (m_goes : (Nat → Int)) (m_waits : (Nat → Int)) (m_still : (Nat → Int)) (m_cameFrom : (Nat → Int)) (m_cameBy : (Nat → Int)) (m_wave : (Nat → Int)) (m_waved : Int) (m_goal : Int) (m_goalBy : Int) (m_until : Int) (post : Int → ((Nat → Int) × (Nat → Int) × (Nat → Int) × (Nat → Int) × (Nat → Int) × (Nat → Int) × Int × Int × Int × Int) → Prop) : Prop :=
  (iv_X5_clearNet a1 m_state m_goes m_waits m_still m_until (fun (u_1 : (Nat → Int) × (Nat → Int) × (Nat → Int) × Int) => (∃ n_74, iv_X5_outBy_L9 (fun k2_26 => (∃ n_53, iv_X5_outBy_L44 (fun k2_43 m_goes_44 m_waits_45 m_still_46 m_cameFrom_47 m_cameBy_48 m_wave_49 m_waved_50 m_goal_51 m_goalBy_52 => post k2_43 (m_goes_44, m_waits_45, m_still_46, m_cameFrom_47, m_cameBy_48, m_wave_49, m_waved_50, m_goal_51, m_goalBy_52, u_1.2.2.2))  m_state u_1.2.2.2 n_53 k2_26 u_1.1 u_1.2.1 u_1.2.2.1 m_cameFrom m_cameBy m_wave m_waved m_goal m_goalBy))  m_state n_74 0 0)))

set_option maxHeartbeats 4000000 in
theorem lift_X5_outBy {a1' : Int32} {a1 : Int} {m_state' : (Nat → Int32)} {m_state : (Nat → Int)} {m_goes' : (Nat → Int32)} {m_goes : (Nat → Int)} {m_waits' : (Nat → Int32)} {m_waits : (Nat → Int)} {m_still' : (Nat → Int32)} {m_still : (Nat → Int)} {m_cameFrom' : (Nat → Int32)} {m_cameFrom : (Nat → Int)} {m_cameBy' : (Nat → Int32)} {m_cameBy : (Nat → Int)} {m_wave' : (Nat → Int32)} {m_wave : (Nat → Int)} {m_waved' : Int32} {m_waved : Int} {m_goal' : Int32} {m_goal : Int} {m_goalBy' : Int32} {m_goalBy : Int} {m_until' : Int32} {m_until : Int} (e_a1 : a1' = iz a1) (e_m_state : m_state' = az m_state) (e_m_goes : m_goes' = az m_goes) (e_m_waits : m_waits' = az m_waits) (e_m_still : m_still' = az m_still) (e_m_cameFrom : m_cameFrom' = az m_cameFrom) (e_m_cameBy : m_cameBy' = az m_cameBy) (e_m_wave : m_wave' = az m_wave) (e_m_waved : m_waved' = iz m_waved) (e_m_goal : m_goal' = iz m_goal) (e_m_goalBy : m_goalBy' = iz m_goalBy) (e_m_until : m_until' = iz m_until) {post0 : Int32 → ((Nat → Int32) × (Nat → Int32) × (Nat → Int32) × (Nat → Int32) × (Nat → Int32) × (Nat → Int32) × Int32 × Int32 × Int32 × Int32) → Prop} {post : Int → ((Nat → Int) × (Nat → Int) × (Nat → Int) × (Nat → Int) × (Nat → Int) × (Nat → Int) × Int × Int × Int × Int) → Prop} (hv : iv_X5_outBy a1 m_state m_goes m_waits m_still m_cameFrom m_cameBy m_wave m_waved m_goal m_goalBy m_until post) (hp : ∀ (r : Int) (u : (Nat → Int) × (Nat → Int) × (Nat → Int) × (Nat → Int) × (Nat → Int) × (Nat → Int) × Int × Int × Int × Int) (x : Int32) (y : (Nat → Int32) × (Nat → Int32) × (Nat → Int32) × (Nat → Int32) × (Nat → Int32) × (Nat → Int32) × Int32 × Int32 × Int32 × Int32), post r u → x = iz r → y = (az u.1, az u.2.1, az u.2.2.1, az u.2.2.2.1, az u.2.2.2.2.1, az u.2.2.2.2.2.1, iz u.2.2.2.2.2.2.1, iz u.2.2.2.2.2.2.2.1, iz u.2.2.2.2.2.2.2.2.1, iz u.2.2.2.2.2.2.2.2.2) → post0 x y) : vc_X5_outBy a1' m_state' m_goes' m_waits' m_still' m_cameFrom' m_cameBy' m_wave' m_waved' m_goal' m_goalBy' m_until' post0 := by
  subst e_a1
  subst e_m_state
  subst e_m_goes
  subst e_m_waits
  subst e_m_still
  subst e_m_cameFrom
  subst e_m_cameBy
  subst e_m_wave
  subst e_m_waved
  subst e_m_goal
  subst e_m_goalBy
  subst e_m_until
  rw [iv_X5_outBy] at hv
  rw [vc_X5_outBy]
  refine lift_X5_clearNet (by first | with_reducible rfl | simp only [zl, iz_add, iz_sub, iz_mul, iz_neg]) (by first | with_reducible rfl | simp only [zl, iz_add, iz_sub, iz_mul, iz_neg]) (by first | with_reducible rfl | simp only [zl, iz_add, iz_sub, iz_mul, iz_neg]) (by first | with_reducible rfl | simp only [zl, iz_add, iz_sub, iz_mul, iz_neg]) (by first | with_reducible rfl | simp only [zl, iz_add, iz_sub, iz_mul, iz_neg]) (by first | with_reducible rfl | simp only [zl, iz_add, iz_sub, iz_mul, iz_neg]) hv (fun u_1 y_3 hv eu_5 => ?_)
  subst eu_5
  try dsimp only
  obtain ⟨n_74, hv⟩ := hv
  refine ⟨n_74, lift_X5_outBy_L9 (by first | with_reducible rfl | simp only [zl, iz_add, iz_sub, iz_mul, iz_neg]) (fun y_75 k2_26 hv ey_76 => ?_)  n_74 _ _ 0 0 (by first | with_reducible rfl | simp only [zl, iz_add, iz_sub, iz_mul, iz_neg]) (by first | with_reducible rfl | simp only [zl, iz_add, iz_sub, iz_mul, iz_neg]) hv⟩
  subst ey_76
  obtain ⟨n_53, hv⟩ := hv
  refine ⟨n_53, lift_X5_outBy_L44 (by first | with_reducible rfl | simp only [zl, iz_add, iz_sub, iz_mul, iz_neg]) (by first | with_reducible rfl | simp only [zl, iz_add, iz_sub, iz_mul, iz_neg]) (fun y_54 y_55 y_56 y_57 y_58 y_59 y_60 y_61 y_62 y_63 k2_43 m_goes_44 m_waits_45 m_still_46 m_cameFrom_47 m_cameBy_48 m_wave_49 m_waved_50 m_goal_51 m_goalBy_52 hv ey_64 ey_65 ey_66 ey_67 ey_68 ey_69 ey_70 ey_71 ey_72 ey_73 => ?_)  n_53 _ _ _ _ _ _ _ _ _ _ k2_26 u_1.1 u_1.2.1 u_1.2.2.1 m_cameFrom m_cameBy m_wave m_waved m_goal m_goalBy (by first | with_reducible rfl | simp only [zl, iz_add, iz_sub, iz_mul, iz_neg]) (by first | with_reducible rfl | simp only [zl, iz_add, iz_sub, iz_mul, iz_neg]) (by first | with_reducible rfl | simp only [zl, iz_add, iz_sub, iz_mul, iz_neg]) (by first | with_reducible rfl | simp only [zl, iz_add, iz_sub, iz_mul, iz_neg]) (by first | with_reducible rfl | simp only [zl, iz_add, iz_sub, iz_mul, iz_neg]) (by first | with_reducible rfl | simp only [zl, iz_add, iz_sub, iz_mul, iz_neg]) (by first | with_reducible rfl | simp only [zl, iz_add, iz_sub, iz_mul, iz_neg]) (by first | with_reducible rfl | simp only [zl, iz_add, iz_sub, iz_mul, iz_neg]) (by first | with_reducible rfl | simp only [zl, iz_add, iz_sub, iz_mul, iz_neg]) (by first | with_reducible rfl | simp only [zl, iz_add, iz_sub, iz_mul, iz_neg]) hv⟩
  subst ey_64
  subst ey_65
  subst ey_66
  subst ey_67
  subst ey_68
  subst ey_69
  subst ey_70
  subst ey_71
  subst ey_72
  subst ey_73
  exact hp _ _ _ _ hv (by first | with_reducible rfl | simp only [zl, iz_add, iz_sub, iz_mul, iz_neg]) (by first | with_reducible rfl | simp only [zl, iz_add, iz_sub, iz_mul, iz_neg])

def iv_X5_out (a1 : Int) (m_state : (Nat → Int)) (m_goes : (Nat → Int)) (m_waits : (Nat → Int)) (m_still : (Nat → Int)) (m_cameFrom : (Nat → Int)) (m_cameBy : (Nat → Int)) (m_wave : (Nat → Int)) (m_waved : Int) (m_goal : Int) (m_goalBy : Int) (m_until : Int) (post : Int → ((Nat → Int) × (Nat → Int) × (Nat → Int) × (Nat → Int) × (Nat → Int) × (Nat → Int) × Int × Int × Int × Int) → Prop) : Prop :=
  (iv_X5_in a1 0 60 (fun (r_2 : Int) (u_1 : Unit) => ((sm r_2 ∧ sm 0) ∧ ((r_2 = 0 → post (-2) (m_goes, m_waits, m_still, m_cameFrom, m_cameBy, m_wave, m_waved, m_goal, m_goalBy, m_until)) ∧ (¬ r_2 = 0 → (iv_X5_outBy a1 m_state m_goes m_waits m_still m_cameFrom m_cameBy m_wave m_waved m_goal m_goalBy m_until (fun (r_10 : Int) (u_9 : (Nat → Int) × (Nat → Int) × (Nat → Int) × (Nat → Int) × (Nat → Int) × (Nat → Int) × Int × Int × Int × Int) => post r_10 (u_9.1, u_9.2.1, u_9.2.2.1, u_9.2.2.2.1, u_9.2.2.2.2.1, u_9.2.2.2.2.2.1, u_9.2.2.2.2.2.2.1, u_9.2.2.2.2.2.2.2.1, u_9.2.2.2.2.2.2.2.2.1, u_9.2.2.2.2.2.2.2.2.2))))))))

set_option maxHeartbeats 4000000 in
theorem lift_X5_out {a1' : Int32} {a1 : Int} {m_state' : (Nat → Int32)} {m_state : (Nat → Int)} {m_goes' : (Nat → Int32)} {m_goes : (Nat → Int)} {m_waits' : (Nat → Int32)} {m_waits : (Nat → Int)} {m_still' : (Nat → Int32)} {m_still : (Nat → Int)} {m_cameFrom' : (Nat → Int32)} {m_cameFrom : (Nat → Int)} {m_cameBy' : (Nat → Int32)} {m_cameBy : (Nat → Int)} {m_wave' : (Nat → Int32)} {m_wave : (Nat → Int)} {m_waved' : Int32} {m_waved : Int} {m_goal' : Int32} {m_goal : Int} {m_goalBy' : Int32} {m_goalBy : Int} {m_until' : Int32} {m_until : Int} (e_a1 : a1' = iz a1) (e_m_state : m_state' = az m_state) (e_m_goes : m_goes' = az m_goes) (e_m_waits : m_waits' = az m_waits) (e_m_still : m_still' = az m_still) (e_m_cameFrom : m_cameFrom' = az m_cameFrom) (e_m_cameBy : m_cameBy' = az m_cameBy) (e_m_wave : m_wave' = az m_wave) (e_m_waved : m_waved' = iz m_waved) (e_m_goal : m_goal' = iz m_goal) (e_m_goalBy : m_goalBy' = iz m_goalBy) (e_m_until : m_until' = iz m_until) {post0 : Int32 → ((Nat → Int32) × (Nat → Int32) × (Nat → Int32) × (Nat → Int32) × (Nat → Int32) × (Nat → Int32) × Int32 × Int32 × Int32 × Int32) → Prop} {post : Int → ((Nat → Int) × (Nat → Int) × (Nat → Int) × (Nat → Int) × (Nat → Int) × (Nat → Int) × Int × Int × Int × Int) → Prop} (hv : iv_X5_out a1 m_state m_goes m_waits m_still m_cameFrom m_cameBy m_wave m_waved m_goal m_goalBy m_until post) (hp : ∀ (r : Int) (u : (Nat → Int) × (Nat → Int) × (Nat → Int) × (Nat → Int) × (Nat → Int) × (Nat → Int) × Int × Int × Int × Int) (x : Int32) (y : (Nat → Int32) × (Nat → Int32) × (Nat → Int32) × (Nat → Int32) × (Nat → Int32) × (Nat → Int32) × Int32 × Int32 × Int32 × Int32), post r u → x = iz r → y = (az u.1, az u.2.1, az u.2.2.1, az u.2.2.2.1, az u.2.2.2.2.1, az u.2.2.2.2.2.1, iz u.2.2.2.2.2.2.1, iz u.2.2.2.2.2.2.2.1, iz u.2.2.2.2.2.2.2.2.1, iz u.2.2.2.2.2.2.2.2.2) → post0 x y) : vc_X5_out a1' m_state' m_goes' m_waits' m_still' m_cameFrom' m_cameBy' m_wave' m_waved' m_goal' m_goalBy' m_until' post0 := by
  subst e_a1
  subst e_m_state
  subst e_m_goes
  subst e_m_waits
  subst e_m_still
  subst e_m_cameFrom
  subst e_m_cameBy
  subst e_m_wave
  subst e_m_waved
  subst e_m_goal
  subst e_m_goalBy
  subst e_m_until
  rw [iv_X5_out] at hv
  rw [vc_X5_out]
  refine lift_X5_in (by first | with_reducible rfl | simp only [zl, iz_add, iz_sub, iz_mul, iz_neg]) (by first | with_reducible rfl | simp only [zl, iz_add, iz_sub, iz_mul, iz_neg]) (by first | with_reducible rfl | simp only [zl, iz_add, iz_sub, iz_mul, iz_neg]) hv (fun r_2 u_1 y_3 y_4 hv er_5 eu_6 => ?_)
  subst er_5; subst eu_6
  try dsimp only
  obtain ⟨hs_7, hv⟩ := hv
  have q_8 := z_eq (x := (iz r_2)) (a := r_2) (by first | with_reducible rfl | simp only [zl, iz_add, iz_sub, iz_mul, iz_neg]) (y := 0) (b := 0) (by first | with_reducible rfl | simp only [zl, iz_add, iz_sub, iz_mul, iz_neg]) hs_7.1 hs_7.2
  refine ⟨fun c9 => ?_, fun c9 => ?_⟩
  · have hv := hv.1 (q_8.mp c9)
    exact hp _ _ _ _ hv (by first | with_reducible rfl | simp only [zl, iz_add, iz_sub, iz_mul, iz_neg]) (by first | with_reducible rfl | simp only [zl, iz_add, iz_sub, iz_mul, iz_neg])
  · have hv := hv.2 (fun z9 => c9 (q_8.mpr z9))
    refine lift_X5_outBy (by first | with_reducible rfl | simp only [zl, iz_add, iz_sub, iz_mul, iz_neg]) (by first | with_reducible rfl | simp only [zl, iz_add, iz_sub, iz_mul, iz_neg]) (by first | with_reducible rfl | simp only [zl, iz_add, iz_sub, iz_mul, iz_neg]) (by first | with_reducible rfl | simp only [zl, iz_add, iz_sub, iz_mul, iz_neg]) (by first | with_reducible rfl | simp only [zl, iz_add, iz_sub, iz_mul, iz_neg]) (by first | with_reducible rfl | simp only [zl, iz_add, iz_sub, iz_mul, iz_neg]) (by first | with_reducible rfl | simp only [zl, iz_add, iz_sub, iz_mul, iz_neg]) (by first | with_reducible rfl | simp only [zl, iz_add, iz_sub, iz_mul, iz_neg]) (by first | with_reducible rfl | simp only [zl, iz_add, iz_sub, iz_mul, iz_neg]) (by first | with_reducible rfl | simp only [zl, iz_add, iz_sub, iz_mul, iz_neg]) (by first | with_reducible rfl | simp only [zl, iz_add, iz_sub, iz_mul, iz_neg]) (by first | with_reducible rfl | simp only [zl, iz_add, iz_sub, iz_mul, iz_neg]) hv (fun r_10 u_9 y_11 y_12 hv er_13 eu_14 => ?_)
    subst er_13; subst eu_14
    try dsimp only
    exact hp _ _ _ _ hv (by first | with_reducible rfl | simp only [zl, iz_add, iz_sub, iz_mul, iz_neg]) (by first | with_reducible rfl | simp only [zl, iz_add, iz_sub, iz_mul, iz_neg])

def iv_X5_lastOne_L23 (K : Int → (Nat → Int) → (Nat → Int) → (Nat → Int) → (Nat → Int) → (Nat → Int) → (Nat → Int) → Int → Int → Int → Int → Prop) (b1 : Int) (m_state : (Nat → Int)) : Nat → Int → Int → (Nat → Int) → (Nat → Int) → (Nat → Int) → (Nat → Int) → (Nat → Int) → (Nat → Int) → Int → Int → Int → Int → Prop
  | 0, _, _, _, _, _, _, _, _, _, _, _, _ => False
  | n + 1, v2, v3, m_goes, m_waits, m_still, m_cameFrom, m_cameBy, m_wave, m_waved, m_goal, m_goalBy, m_until =>
    ((sm (v3 - v2) ∧ sm 1) ∧ (((v3 - v2) ≤ 1 → K v3 m_goes m_waits m_still m_cameFrom m_cameBy m_wave m_waved m_goal m_goalBy m_until) ∧ (¬ (v3 - v2) ≤ 1 → ((zn (v3 + v2)) ∧ (∀ x4_19 : Int, x4_19 = ((v3 + v2) / 2) → (iv_X5_outBy x4_19 m_state m_goes m_waits m_still m_cameFrom m_cameBy m_wave m_waved m_goal m_goalBy m_until (fun (r_22 : Int) (u_21 : (Nat → Int) × (Nat → Int) × (Nat → Int) × (Nat → Int) × (Nat → Int) × (Nat → Int) × Int × Int × Int × Int) => ((sm r_22 ∧ sm b1) ∧ ((¬ r_22 = b1 → iv_X5_lastOne_L23 K b1 m_state n x4_19 v3 u_21.1 u_21.2.1 u_21.2.2.1 u_21.2.2.2.1 u_21.2.2.2.2.1 u_21.2.2.2.2.2.1 u_21.2.2.2.2.2.2.1 u_21.2.2.2.2.2.2.2.1 u_21.2.2.2.2.2.2.2.2.1 u_21.2.2.2.2.2.2.2.2.2) ∧ (r_22 = b1 → iv_X5_lastOne_L23 K b1 m_state n v2 x4_19 u_21.1 u_21.2.1 u_21.2.2.1 u_21.2.2.2.1 u_21.2.2.2.2.1 u_21.2.2.2.2.2.1 u_21.2.2.2.2.2.2.1 u_21.2.2.2.2.2.2.2.1 u_21.2.2.2.2.2.2.2.2.1 u_21.2.2.2.2.2.2.2.2.2))))))))))

set_option maxHeartbeats 4000000 in
theorem lift_X5_lastOne_L23 {K0 : Int32 → (Nat → Int32) → (Nat → Int32) → (Nat → Int32) → (Nat → Int32) → (Nat → Int32) → (Nat → Int32) → Int32 → Int32 → Int32 → Int32 → Prop} {K : Int → (Nat → Int) → (Nat → Int) → (Nat → Int) → (Nat → Int) → (Nat → Int) → (Nat → Int) → Int → Int → Int → Int → Prop} {b1' : Int32} {b1 : Int} {m_state' : (Nat → Int32)} {m_state : (Nat → Int)} (e_b1 : b1' = iz b1) (e_m_state : m_state' = az m_state)  (hKx : ∀ (k3' : Int32) (k_m_goes' : (Nat → Int32)) (k_m_waits' : (Nat → Int32)) (k_m_still' : (Nat → Int32)) (k_m_cameFrom' : (Nat → Int32)) (k_m_cameBy' : (Nat → Int32)) (k_m_wave' : (Nat → Int32)) (k_m_waved' : Int32) (k_m_goal' : Int32) (k_m_goalBy' : Int32) (k_m_until' : Int32) (k3 : Int) (k_m_goes : (Nat → Int)) (k_m_waits : (Nat → Int)) (k_m_still : (Nat → Int)) (k_m_cameFrom : (Nat → Int)) (k_m_cameBy : (Nat → Int)) (k_m_wave : (Nat → Int)) (k_m_waved : Int) (k_m_goal : Int) (k_m_goalBy : Int) (k_m_until : Int), K k3 k_m_goes k_m_waits k_m_still k_m_cameFrom k_m_cameBy k_m_wave k_m_waved k_m_goal k_m_goalBy k_m_until → k3' = iz k3 → k_m_goes' = az k_m_goes → k_m_waits' = az k_m_waits → k_m_still' = az k_m_still → k_m_cameFrom' = az k_m_cameFrom → k_m_cameBy' = az k_m_cameBy → k_m_wave' = az k_m_wave → k_m_waved' = iz k_m_waved → k_m_goal' = iz k_m_goal → k_m_goalBy' = iz k_m_goalBy → k_m_until' = iz k_m_until →  K0 k3' k_m_goes' k_m_waits' k_m_still' k_m_cameFrom' k_m_cameBy' k_m_wave' k_m_waved' k_m_goal' k_m_goalBy' k_m_until') :
    ∀ (n : Nat) (v2' : Int32) (v3' : Int32) (m_goes' : (Nat → Int32)) (m_waits' : (Nat → Int32)) (m_still' : (Nat → Int32)) (m_cameFrom' : (Nat → Int32)) (m_cameBy' : (Nat → Int32)) (m_wave' : (Nat → Int32)) (m_waved' : Int32) (m_goal' : Int32) (m_goalBy' : Int32) (m_until' : Int32) (v2 : Int) (v3 : Int) (m_goes : (Nat → Int)) (m_waits : (Nat → Int)) (m_still : (Nat → Int)) (m_cameFrom : (Nat → Int)) (m_cameBy : (Nat → Int)) (m_wave : (Nat → Int)) (m_waved : Int) (m_goal : Int) (m_goalBy : Int) (m_until : Int) (e_v2 : v2' = iz v2) (e_v3 : v3' = iz v3) (e_m_goes : m_goes' = az m_goes) (e_m_waits : m_waits' = az m_waits) (e_m_still : m_still' = az m_still) (e_m_cameFrom : m_cameFrom' = az m_cameFrom) (e_m_cameBy : m_cameBy' = az m_cameBy) (e_m_wave : m_wave' = az m_wave) (e_m_waved : m_waved' = iz m_waved) (e_m_goal : m_goal' = iz m_goal) (e_m_goalBy : m_goalBy' = iz m_goalBy) (e_m_until : m_until' = iz m_until), iv_X5_lastOne_L23 K b1 m_state n v2 v3 m_goes m_waits m_still m_cameFrom m_cameBy m_wave m_waved m_goal m_goalBy m_until → vc_X5_lastOne_L23 K0 b1' m_state' n v2' v3' m_goes' m_waits' m_still' m_cameFrom' m_cameBy' m_wave' m_waved' m_goal' m_goalBy' m_until' := by
  subst e_b1
  subst e_m_state
  intro n
  induction n with
  | zero =>
    intro v2' v3' m_goes' m_waits' m_still' m_cameFrom' m_cameBy' m_wave' m_waved' m_goal' m_goalBy' m_until' v2 v3 m_goes m_waits m_still m_cameFrom m_cameBy m_wave m_waved m_goal m_goalBy m_until e_v2 e_v3 e_m_goes e_m_waits e_m_still e_m_cameFrom e_m_cameBy e_m_wave e_m_waved e_m_goal e_m_goalBy e_m_until hv
    exact False.elim hv
  | succ n ih =>
    intro v2' v3' m_goes' m_waits' m_still' m_cameFrom' m_cameBy' m_wave' m_waved' m_goal' m_goalBy' m_until' v2 v3 m_goes m_waits m_still m_cameFrom m_cameBy m_wave m_waved m_goal m_goalBy m_until e_v2 e_v3 e_m_goes e_m_waits e_m_still e_m_cameFrom e_m_cameBy e_m_wave e_m_waved e_m_goal e_m_goalBy e_m_until hv
    subst e_v2
    subst e_v3
    subst e_m_goes
    subst e_m_waits
    subst e_m_still
    subst e_m_cameFrom
    subst e_m_cameBy
    subst e_m_wave
    subst e_m_waved
    subst e_m_goal
    subst e_m_goalBy
    subst e_m_until
    rw [iv_X5_lastOne_L23] at hv
    rw [vc_X5_lastOne_L23]
    obtain ⟨hs_15, hv⟩ := hv
    have q_16 := z_le (x := ((iz v3) - (iz v2))) (a := (v3 - v2)) (by first | with_reducible rfl | simp only [zl, iz_add, iz_sub, iz_mul, iz_neg]) (y := 1) (b := 1) (by first | with_reducible rfl | simp only [zl, iz_add, iz_sub, iz_mul, iz_neg]) hs_15.1 hs_15.2
    refine ⟨fun c9 => ?_, fun c9 => ?_⟩
    · have hv := hv.1 (q_16.mp c9)
      exact hKx _ _ _ _ _ _ _ _ _ _ _ v3 m_goes m_waits m_still m_cameFrom m_cameBy m_wave m_waved m_goal m_goalBy m_until hv (by first | with_reducible rfl | simp only [zl, iz_add, iz_sub, iz_mul, iz_neg]) (by first | with_reducible rfl | simp only [zl, iz_add, iz_sub, iz_mul, iz_neg]) (by first | with_reducible rfl | simp only [zl, iz_add, iz_sub, iz_mul, iz_neg]) (by first | with_reducible rfl | simp only [zl, iz_add, iz_sub, iz_mul, iz_neg]) (by first | with_reducible rfl | simp only [zl, iz_add, iz_sub, iz_mul, iz_neg]) (by first | with_reducible rfl | simp only [zl, iz_add, iz_sub, iz_mul, iz_neg]) (by first | with_reducible rfl | simp only [zl, iz_add, iz_sub, iz_mul, iz_neg]) (by first | with_reducible rfl | simp only [zl, iz_add, iz_sub, iz_mul, iz_neg]) (by first | with_reducible rfl | simp only [zl, iz_add, iz_sub, iz_mul, iz_neg]) (by first | with_reducible rfl | simp only [zl, iz_add, iz_sub, iz_mul, iz_neg]) (by first | with_reducible rfl | simp only [zl, iz_add, iz_sub, iz_mul, iz_neg])
    · have hv := hv.2 (fun z9 => c9 (q_16.mpr z9))
      obtain ⟨hc_17, hv⟩ := hv
      have e_18 : (((iz v3) + (iz v2)) / 2) = iz ((v3 + v2) / 2) := z_div (by first | with_reducible rfl | simp only [zl, iz_add, iz_sub, iz_mul, iz_neg]) hc_17 (by decide) (by decide)
      try rw [e_18]
      intro y_20 hy_20
      obtain ⟨x4_19, hx4_19⟩ : ∃ z : Int, z = ((v3 + v2) / 2) := ⟨_, rfl⟩
      have hv := hv x4_19 hx4_19
      have ey_20 : y_20 = iz x4_19 := by rw [hy_20, hx4_19]; try exact (by first | with_reducible rfl | simp only [zl, iz_add, iz_sub, iz_mul, iz_neg])
      subst ey_20
      refine lift_X5_outBy (by first | with_reducible rfl | simp only [zl, iz_add, iz_sub, iz_mul, iz_neg]) (by first | with_reducible rfl | simp only [zl, iz_add, iz_sub, iz_mul, iz_neg]) (by first | with_reducible rfl | simp only [zl, iz_add, iz_sub, iz_mul, iz_neg]) (by first | with_reducible rfl | simp only [zl, iz_add, iz_sub, iz_mul, iz_neg]) (by first | with_reducible rfl | simp only [zl, iz_add, iz_sub, iz_mul, iz_neg]) (by first | with_reducible rfl | simp only [zl, iz_add, iz_sub, iz_mul, iz_neg]) (by first | with_reducible rfl | simp only [zl, iz_add, iz_sub, iz_mul, iz_neg]) (by first | with_reducible rfl | simp only [zl, iz_add, iz_sub, iz_mul, iz_neg]) (by first | with_reducible rfl | simp only [zl, iz_add, iz_sub, iz_mul, iz_neg]) (by first | with_reducible rfl | simp only [zl, iz_add, iz_sub, iz_mul, iz_neg]) (by first | with_reducible rfl | simp only [zl, iz_add, iz_sub, iz_mul, iz_neg]) (by first | with_reducible rfl | simp only [zl, iz_add, iz_sub, iz_mul, iz_neg]) hv (fun r_22 u_21 y_23 y_24 hv er_25 eu_26 => ?_)
      subst er_25; subst eu_26
      try dsimp only
      obtain ⟨hs_27, hv⟩ := hv
      have q_28 := z_eq (x := (iz r_22)) (a := r_22) (by first | with_reducible rfl | simp only [zl, iz_add, iz_sub, iz_mul, iz_neg]) (y := (iz b1)) (b := b1) (by first | with_reducible rfl | simp only [zl, iz_add, iz_sub, iz_mul, iz_neg]) hs_27.1 hs_27.2
      refine ⟨fun c9 => ?_, fun c9 => ?_⟩
      · have hv := hv.1 (fun z9 => c9 (q_28.mpr z9))
        exact ih _ _ _ _ _ _ _ _ _ _ _ _ x4_19 v3 u_21.1 u_21.2.1 u_21.2.2.1 u_21.2.2.2.1 u_21.2.2.2.2.1 u_21.2.2.2.2.2.1 u_21.2.2.2.2.2.2.1 u_21.2.2.2.2.2.2.2.1 u_21.2.2.2.2.2.2.2.2.1 u_21.2.2.2.2.2.2.2.2.2 (by first | with_reducible rfl | simp only [zl, iz_add, iz_sub, iz_mul, iz_neg]) (by first | with_reducible rfl | simp only [zl, iz_add, iz_sub, iz_mul, iz_neg]) (by first | with_reducible rfl | simp only [zl, iz_add, iz_sub, iz_mul, iz_neg]) (by first | with_reducible rfl | simp only [zl, iz_add, iz_sub, iz_mul, iz_neg]) (by first | with_reducible rfl | simp only [zl, iz_add, iz_sub, iz_mul, iz_neg]) (by first | with_reducible rfl | simp only [zl, iz_add, iz_sub, iz_mul, iz_neg]) (by first | with_reducible rfl | simp only [zl, iz_add, iz_sub, iz_mul, iz_neg]) (by first | with_reducible rfl | simp only [zl, iz_add, iz_sub, iz_mul, iz_neg]) (by first | with_reducible rfl | simp only [zl, iz_add, iz_sub, iz_mul, iz_neg]) (by first | with_reducible rfl | simp only [zl, iz_add, iz_sub, iz_mul, iz_neg]) (by first | with_reducible rfl | simp only [zl, iz_add, iz_sub, iz_mul, iz_neg]) (by first | with_reducible rfl | simp only [zl, iz_add, iz_sub, iz_mul, iz_neg]) hv
      · have hv := hv.2 (q_28.mp c9)
        exact ih _ _ _ _ _ _ _ _ _ _ _ _ v2 x4_19 u_21.1 u_21.2.1 u_21.2.2.1 u_21.2.2.2.1 u_21.2.2.2.2.1 u_21.2.2.2.2.2.1 u_21.2.2.2.2.2.2.1 u_21.2.2.2.2.2.2.2.1 u_21.2.2.2.2.2.2.2.2.1 u_21.2.2.2.2.2.2.2.2.2 (by first | with_reducible rfl | simp only [zl, iz_add, iz_sub, iz_mul, iz_neg]) (by first | with_reducible rfl | simp only [zl, iz_add, iz_sub, iz_mul, iz_neg]) (by first | with_reducible rfl | simp only [zl, iz_add, iz_sub, iz_mul, iz_neg]) (by first | with_reducible rfl | simp only [zl, iz_add, iz_sub, iz_mul, iz_neg]) (by first | with_reducible rfl | simp only [zl, iz_add, iz_sub, iz_mul, iz_neg]) (by first | with_reducible rfl | simp only [zl, iz_add, iz_sub, iz_mul, iz_neg]) (by first | with_reducible rfl | simp only [zl, iz_add, iz_sub, iz_mul, iz_neg]) (by first | with_reducible rfl | simp only [zl, iz_add, iz_sub, iz_mul, iz_neg]) (by first | with_reducible rfl | simp only [zl, iz_add, iz_sub, iz_mul, iz_neg]) (by first | with_reducible rfl | simp only [zl, iz_add, iz_sub, iz_mul, iz_neg]) (by first | with_reducible rfl | simp only [zl, iz_add, iz_sub, iz_mul, iz_neg]) (by first | with_reducible rfl | simp only [zl, iz_add, iz_sub, iz_mul, iz_neg]) hv

def iv_X5_lastOne (m_state : (Nat → Int)) (m_goes : (Nat → Int)) (m_waits : (Nat → Int)) (m_still : (Nat → Int)) (m_cameFrom : (Nat → Int)) (m_cameBy : (Nat → Int)) (m_wave : (Nat → Int)) (m_waved : Int) (m_goal : Int) (m_goalBy : Int) (m_until : Int) (post : Int → ((Nat → Int) × (Nat → Int) × (Nat → Int) × (Nat → Int) × (Nat → Int) × (Nat → Int) × Int × Int × Int × Int) → Prop) : Prop :=
  (iv_X5_people m_state (fun (r_2 : Int) (u_1 : Unit) => (iv_X5_outBy 60 m_state m_goes m_waits m_still m_cameFrom m_cameBy m_wave m_waved m_goal m_goalBy m_until (fun (r_8 : Int) (u_7 : (Nat → Int) × (Nat → Int) × (Nat → Int) × (Nat → Int) × (Nat → Int) × (Nat → Int) × Int × Int × Int × Int) => ((sm r_2 ∧ sm r_8) ∧ ((r_2 ≤ r_8 → (∃ n_40, iv_X5_lastOne_L23 (fun k3_29 m_goes_30 m_waits_31 m_still_32 m_cameFrom_33 m_cameBy_34 m_wave_35 m_waved_36 m_goal_37 m_goalBy_38 m_until_39 => post k3_29 (m_goes_30, m_waits_31, m_still_32, m_cameFrom_33, m_cameBy_34, m_wave_35, m_waved_36, m_goal_37, m_goalBy_38, m_until_39))  r_2 m_state n_40 (-1) 60 u_7.1 u_7.2.1 u_7.2.2.1 u_7.2.2.2.1 u_7.2.2.2.2.1 u_7.2.2.2.2.2.1 u_7.2.2.2.2.2.2.1 u_7.2.2.2.2.2.2.2.1 u_7.2.2.2.2.2.2.2.2.1 u_7.2.2.2.2.2.2.2.2.2)) ∧ (¬ r_2 ≤ r_8 → post (-6) (u_7.1, u_7.2.1, u_7.2.2.1, u_7.2.2.2.1, u_7.2.2.2.2.1, u_7.2.2.2.2.2.1, u_7.2.2.2.2.2.2.1, u_7.2.2.2.2.2.2.2.1, u_7.2.2.2.2.2.2.2.2.1, u_7.2.2.2.2.2.2.2.2.2))))))))

set_option maxHeartbeats 4000000 in
theorem lift_X5_lastOne {m_state' : (Nat → Int32)} {m_state : (Nat → Int)} {m_goes' : (Nat → Int32)} {m_goes : (Nat → Int)} {m_waits' : (Nat → Int32)} {m_waits : (Nat → Int)} {m_still' : (Nat → Int32)} {m_still : (Nat → Int)} {m_cameFrom' : (Nat → Int32)} {m_cameFrom : (Nat → Int)} {m_cameBy' : (Nat → Int32)} {m_cameBy : (Nat → Int)} {m_wave' : (Nat → Int32)} {m_wave : (Nat → Int)} {m_waved' : Int32} {m_waved : Int} {m_goal' : Int32} {m_goal : Int} {m_goalBy' : Int32} {m_goalBy : Int} {m_until' : Int32} {m_until : Int} (e_m_state : m_state' = az m_state) (e_m_goes : m_goes' = az m_goes) (e_m_waits : m_waits' = az m_waits) (e_m_still : m_still' = az m_still) (e_m_cameFrom : m_cameFrom' = az m_cameFrom) (e_m_cameBy : m_cameBy' = az m_cameBy) (e_m_wave : m_wave' = az m_wave) (e_m_waved : m_waved' = iz m_waved) (e_m_goal : m_goal' = iz m_goal) (e_m_goalBy : m_goalBy' = iz m_goalBy) (e_m_until : m_until' = iz m_until) {post0 : Int32 → ((Nat → Int32) × (Nat → Int32) × (Nat → Int32) × (Nat → Int32) × (Nat → Int32) × (Nat → Int32) × Int32 × Int32 × Int32 × Int32) → Prop} {post : Int → ((Nat → Int) × (Nat → Int) × (Nat → Int) × (Nat → Int) × (Nat → Int) × (Nat → Int) × Int × Int × Int × Int) → Prop} (hv : iv_X5_lastOne m_state m_goes m_waits m_still m_cameFrom m_cameBy m_wave m_waved m_goal m_goalBy m_until post) (hp : ∀ (r : Int) (u : (Nat → Int) × (Nat → Int) × (Nat → Int) × (Nat → Int) × (Nat → Int) × (Nat → Int) × Int × Int × Int × Int) (x : Int32) (y : (Nat → Int32) × (Nat → Int32) × (Nat → Int32) × (Nat → Int32) × (Nat → Int32) × (Nat → Int32) × Int32 × Int32 × Int32 × Int32), post r u → x = iz r → y = (az u.1, az u.2.1, az u.2.2.1, az u.2.2.2.1, az u.2.2.2.2.1, az u.2.2.2.2.2.1, iz u.2.2.2.2.2.2.1, iz u.2.2.2.2.2.2.2.1, iz u.2.2.2.2.2.2.2.2.1, iz u.2.2.2.2.2.2.2.2.2) → post0 x y) : vc_X5_lastOne m_state' m_goes' m_waits' m_still' m_cameFrom' m_cameBy' m_wave' m_waved' m_goal' m_goalBy' m_until' post0 := by
  subst e_m_state
  subst e_m_goes
  subst e_m_waits
  subst e_m_still
  subst e_m_cameFrom
  subst e_m_cameBy
  subst e_m_wave
  subst e_m_waved
  subst e_m_goal
  subst e_m_goalBy
  subst e_m_until
  rw [iv_X5_lastOne] at hv
  rw [vc_X5_lastOne]
  refine lift_X5_people (by first | with_reducible rfl | simp only [zl, iz_add, iz_sub, iz_mul, iz_neg]) hv (fun r_2 u_1 y_3 y_4 hv er_5 eu_6 => ?_)
  subst er_5; subst eu_6
  try dsimp only
  refine lift_X5_outBy (by first | with_reducible rfl | simp only [zl, iz_add, iz_sub, iz_mul, iz_neg]) (by first | with_reducible rfl | simp only [zl, iz_add, iz_sub, iz_mul, iz_neg]) (by first | with_reducible rfl | simp only [zl, iz_add, iz_sub, iz_mul, iz_neg]) (by first | with_reducible rfl | simp only [zl, iz_add, iz_sub, iz_mul, iz_neg]) (by first | with_reducible rfl | simp only [zl, iz_add, iz_sub, iz_mul, iz_neg]) (by first | with_reducible rfl | simp only [zl, iz_add, iz_sub, iz_mul, iz_neg]) (by first | with_reducible rfl | simp only [zl, iz_add, iz_sub, iz_mul, iz_neg]) (by first | with_reducible rfl | simp only [zl, iz_add, iz_sub, iz_mul, iz_neg]) (by first | with_reducible rfl | simp only [zl, iz_add, iz_sub, iz_mul, iz_neg]) (by first | with_reducible rfl | simp only [zl, iz_add, iz_sub, iz_mul, iz_neg]) (by first | with_reducible rfl | simp only [zl, iz_add, iz_sub, iz_mul, iz_neg]) (by first | with_reducible rfl | simp only [zl, iz_add, iz_sub, iz_mul, iz_neg]) hv (fun r_8 u_7 y_9 y_10 hv er_11 eu_12 => ?_)
  subst er_11; subst eu_12
  try dsimp only
  obtain ⟨hs_13, hv⟩ := hv
  have q_14 := z_le (x := (iz r_2)) (a := r_2) (by first | with_reducible rfl | simp only [zl, iz_add, iz_sub, iz_mul, iz_neg]) (y := (iz r_8)) (b := r_8) (by first | with_reducible rfl | simp only [zl, iz_add, iz_sub, iz_mul, iz_neg]) hs_13.1 hs_13.2
  refine ⟨fun c9 => ?_, fun c9 => ?_⟩
  · have hv := hv.1 (q_14.mp c9)
    obtain ⟨n_40, hv⟩ := hv
    refine ⟨n_40, lift_X5_lastOne_L23 (by first | with_reducible rfl | simp only [zl, iz_add, iz_sub, iz_mul, iz_neg]) (by first | with_reducible rfl | simp only [zl, iz_add, iz_sub, iz_mul, iz_neg]) (fun y_41 y_42 y_43 y_44 y_45 y_46 y_47 y_48 y_49 y_50 y_51 k3_29 m_goes_30 m_waits_31 m_still_32 m_cameFrom_33 m_cameBy_34 m_wave_35 m_waved_36 m_goal_37 m_goalBy_38 m_until_39 hv ey_52 ey_53 ey_54 ey_55 ey_56 ey_57 ey_58 ey_59 ey_60 ey_61 ey_62 => ?_)  n_40 _ _ _ _ _ _ _ _ _ _ _ _ (-1) 60 u_7.1 u_7.2.1 u_7.2.2.1 u_7.2.2.2.1 u_7.2.2.2.2.1 u_7.2.2.2.2.2.1 u_7.2.2.2.2.2.2.1 u_7.2.2.2.2.2.2.2.1 u_7.2.2.2.2.2.2.2.2.1 u_7.2.2.2.2.2.2.2.2.2 (by first | with_reducible rfl | simp only [zl, iz_add, iz_sub, iz_mul, iz_neg]) (by first | with_reducible rfl | simp only [zl, iz_add, iz_sub, iz_mul, iz_neg]) (by first | with_reducible rfl | simp only [zl, iz_add, iz_sub, iz_mul, iz_neg]) (by first | with_reducible rfl | simp only [zl, iz_add, iz_sub, iz_mul, iz_neg]) (by first | with_reducible rfl | simp only [zl, iz_add, iz_sub, iz_mul, iz_neg]) (by first | with_reducible rfl | simp only [zl, iz_add, iz_sub, iz_mul, iz_neg]) (by first | with_reducible rfl | simp only [zl, iz_add, iz_sub, iz_mul, iz_neg]) (by first | with_reducible rfl | simp only [zl, iz_add, iz_sub, iz_mul, iz_neg]) (by first | with_reducible rfl | simp only [zl, iz_add, iz_sub, iz_mul, iz_neg]) (by first | with_reducible rfl | simp only [zl, iz_add, iz_sub, iz_mul, iz_neg]) (by first | with_reducible rfl | simp only [zl, iz_add, iz_sub, iz_mul, iz_neg]) (by first | with_reducible rfl | simp only [zl, iz_add, iz_sub, iz_mul, iz_neg]) hv⟩
    subst ey_52
    subst ey_53
    subst ey_54
    subst ey_55
    subst ey_56
    subst ey_57
    subst ey_58
    subst ey_59
    subst ey_60
    subst ey_61
    subst ey_62
    exact hp _ _ _ _ hv (by first | with_reducible rfl | simp only [zl, iz_add, iz_sub, iz_mul, iz_neg]) (by first | with_reducible rfl | simp only [zl, iz_add, iz_sub, iz_mul, iz_neg])
  · have hv := hv.2 (fun z9 => c9 (q_14.mpr z9))
    exact hp _ _ _ _ hv (by first | with_reducible rfl | simp only [zl, iz_add, iz_sub, iz_mul, iz_neg]) (by first | with_reducible rfl | simp only [zl, iz_add, iz_sub, iz_mul, iz_neg])

def iv_X5_last (m_state : (Nat → Int)) (m_goes : (Nat → Int)) (m_waits : (Nat → Int)) (m_still : (Nat → Int)) (m_cameFrom : (Nat → Int)) (m_cameBy : (Nat → Int)) (m_wave : (Nat → Int)) (m_waved : Int) (m_goal : Int) (m_goalBy : Int) (m_until : Int) (post : Int → ((Nat → Int) × (Nat → Int) × (Nat → Int) × (Nat → Int) × (Nat → Int) × (Nat → Int) × Int × Int × Int × Int) → Prop) : Prop :=
  (iv_X5_lastOne m_state m_goes m_waits m_still m_cameFrom m_cameBy m_wave m_waved m_goal m_goalBy m_until (fun (r_2 : Int) (u_1 : (Nat → Int) × (Nat → Int) × (Nat → Int) × (Nat → Int) × (Nat → Int) × (Nat → Int) × Int × Int × Int × Int) => post r_2 (u_1.1, u_1.2.1, u_1.2.2.1, u_1.2.2.2.1, u_1.2.2.2.2.1, u_1.2.2.2.2.2.1, u_1.2.2.2.2.2.2.1, u_1.2.2.2.2.2.2.2.1, u_1.2.2.2.2.2.2.2.2.1, u_1.2.2.2.2.2.2.2.2.2)))

set_option maxHeartbeats 4000000 in
theorem lift_X5_last {m_state' : (Nat → Int32)} {m_state : (Nat → Int)} {m_goes' : (Nat → Int32)} {m_goes : (Nat → Int)} {m_waits' : (Nat → Int32)} {m_waits : (Nat → Int)} {m_still' : (Nat → Int32)} {m_still : (Nat → Int)} {m_cameFrom' : (Nat → Int32)} {m_cameFrom : (Nat → Int)} {m_cameBy' : (Nat → Int32)} {m_cameBy : (Nat → Int)} {m_wave' : (Nat → Int32)} {m_wave : (Nat → Int)} {m_waved' : Int32} {m_waved : Int} {m_goal' : Int32} {m_goal : Int} {m_goalBy' : Int32} {m_goalBy : Int} {m_until' : Int32} {m_until : Int} (e_m_state : m_state' = az m_state) (e_m_goes : m_goes' = az m_goes) (e_m_waits : m_waits' = az m_waits) (e_m_still : m_still' = az m_still) (e_m_cameFrom : m_cameFrom' = az m_cameFrom) (e_m_cameBy : m_cameBy' = az m_cameBy) (e_m_wave : m_wave' = az m_wave) (e_m_waved : m_waved' = iz m_waved) (e_m_goal : m_goal' = iz m_goal) (e_m_goalBy : m_goalBy' = iz m_goalBy) (e_m_until : m_until' = iz m_until) {post0 : Int32 → ((Nat → Int32) × (Nat → Int32) × (Nat → Int32) × (Nat → Int32) × (Nat → Int32) × (Nat → Int32) × Int32 × Int32 × Int32 × Int32) → Prop} {post : Int → ((Nat → Int) × (Nat → Int) × (Nat → Int) × (Nat → Int) × (Nat → Int) × (Nat → Int) × Int × Int × Int × Int) → Prop} (hv : iv_X5_last m_state m_goes m_waits m_still m_cameFrom m_cameBy m_wave m_waved m_goal m_goalBy m_until post) (hp : ∀ (r : Int) (u : (Nat → Int) × (Nat → Int) × (Nat → Int) × (Nat → Int) × (Nat → Int) × (Nat → Int) × Int × Int × Int × Int) (x : Int32) (y : (Nat → Int32) × (Nat → Int32) × (Nat → Int32) × (Nat → Int32) × (Nat → Int32) × (Nat → Int32) × Int32 × Int32 × Int32 × Int32), post r u → x = iz r → y = (az u.1, az u.2.1, az u.2.2.1, az u.2.2.2.1, az u.2.2.2.2.1, az u.2.2.2.2.2.1, iz u.2.2.2.2.2.2.1, iz u.2.2.2.2.2.2.2.1, iz u.2.2.2.2.2.2.2.2.1, iz u.2.2.2.2.2.2.2.2.2) → post0 x y) : vc_X5_last m_state' m_goes' m_waits' m_still' m_cameFrom' m_cameBy' m_wave' m_waved' m_goal' m_goalBy' m_until' post0 := by
  subst e_m_state
  subst e_m_goes
  subst e_m_waits
  subst e_m_still
  subst e_m_cameFrom
  subst e_m_cameBy
  subst e_m_wave
  subst e_m_waved
  subst e_m_goal
  subst e_m_goalBy
  subst e_m_until
  rw [iv_X5_last] at hv
  rw [vc_X5_last]
  refine lift_X5_lastOne (by first | with_reducible rfl | simp only [zl, iz_add, iz_sub, iz_mul, iz_neg]) (by first | with_reducible rfl | simp only [zl, iz_add, iz_sub, iz_mul, iz_neg]) (by first | with_reducible rfl | simp only [zl, iz_add, iz_sub, iz_mul, iz_neg]) (by first | with_reducible rfl | simp only [zl, iz_add, iz_sub, iz_mul, iz_neg]) (by first | with_reducible rfl | simp only [zl, iz_add, iz_sub, iz_mul, iz_neg]) (by first | with_reducible rfl | simp only [zl, iz_add, iz_sub, iz_mul, iz_neg]) (by first | with_reducible rfl | simp only [zl, iz_add, iz_sub, iz_mul, iz_neg]) (by first | with_reducible rfl | simp only [zl, iz_add, iz_sub, iz_mul, iz_neg]) (by first | with_reducible rfl | simp only [zl, iz_add, iz_sub, iz_mul, iz_neg]) (by first | with_reducible rfl | simp only [zl, iz_add, iz_sub, iz_mul, iz_neg]) (by first | with_reducible rfl | simp only [zl, iz_add, iz_sub, iz_mul, iz_neg]) hv (fun r_2 u_1 y_3 y_4 hv er_5 eu_6 => ?_)
  subst er_5; subst eu_6
  try dsimp only
  exact hp _ _ _ _ hv (by first | with_reducible rfl | simp only [zl, iz_add, iz_sub, iz_mul, iz_neg]) (by first | with_reducible rfl | simp only [zl, iz_add, iz_sub, iz_mul, iz_neg])

def iv_X5_helps_L9 (K : Int → (Nat → Int) → (Nat → Int) → (Nat → Int) → (Nat → Int) → (Nat → Int) → (Nat → Int) → (Nat → Int) → Int → Int → Int → Int → Prop) (b1 : Int) : Nat → Int → Int → (Nat → Int) → (Nat → Int) → (Nat → Int) → (Nat → Int) → (Nat → Int) → (Nat → Int) → (Nat → Int) → Int → Int → Int → Int → Prop
  | 0, _, _, _, _, _, _, _, _, _, _, _, _, _ => False
  | n + 1, v2, v3, m_state, m_goes, m_waits, m_still, m_cameFrom, m_cameBy, m_wave, m_waved, m_goal, m_goalBy, m_until =>
    (iv_X5_many m_state (fun (r_8 : Int) (u_7 : Unit) => ((sm r_8 ∧ sm v3) ∧ ((r_8 ≤ v3 → K v2 m_state m_goes m_waits m_still m_cameFrom m_cameBy m_wave m_waved m_goal m_goalBy m_until) ∧ (¬ r_8 ≤ v3 → ((0 ≤ (38 + v3) ∧ (38 + v3) < 69) ∧ ((0 ≤ (38 + v3) ∧ (38 + v3) < 69) ∧ (iv_X5_lastOne (uz m_state ((38 + v3)).toNat ((m_state ((38 + v3)).toNat) + 1)) m_goes m_waits m_still m_cameFrom m_cameBy m_wave m_waved m_goal m_goalBy m_until (fun (r_20 : Int) (u_19 : (Nat → Int) × (Nat → Int) × (Nat → Int) × (Nat → Int) × (Nat → Int) × (Nat → Int) × Int × Int × Int × Int) => ((0 ≤ (38 + v3) ∧ (38 + v3) < 69) ∧ ((0 ≤ (38 + v3) ∧ (38 + v3) < 69) ∧ ((sm r_20 ∧ sm 0) ∧ ((r_20 < 0 → ((zn v2 ∧ zn 0) ∧ (∀ x2_33 : Int, x2_33 = (zor v2 0) → (∀ x3_35 : Int, x3_35 = v3 + 1 → iv_X5_helps_L9 K b1 n x2_33 x3_35 (uz (uz m_state ((38 + v3)).toNat ((m_state ((38 + v3)).toNat) + 1)) ((38 + v3)).toNat (((uz m_state ((38 + v3)).toNat ((m_state ((38 + v3)).toNat) + 1)) ((38 + v3)).toNat) - 1)) u_19.1 u_19.2.1 u_19.2.2.1 u_19.2.2.2.1 u_19.2.2.2.2.1 u_19.2.2.2.2.2.1 u_19.2.2.2.2.2.2.1 u_19.2.2.2.2.2.2.2.1 u_19.2.2.2.2.2.2.2.2.1 u_19.2.2.2.2.2.2.2.2.2)))) ∧ (¬ r_20 < 0 → ((sm b1 ∧ sm 0) ∧ ((b1 < 0 → ((0 ≤ v3 ∧ v3 < 30) ∧ ((zn v2 ∧ zn (2 ^ (v3).toNat)) ∧ (∀ x2_43 : Int, x2_43 = (zor v2 (2 ^ (v3).toNat)) → (∀ x3_45 : Int, x3_45 = v3 + 1 → iv_X5_helps_L9 K b1 n x2_43 x3_45 (uz (uz m_state ((38 + v3)).toNat ((m_state ((38 + v3)).toNat) + 1)) ((38 + v3)).toNat (((uz m_state ((38 + v3)).toNat ((m_state ((38 + v3)).toNat) + 1)) ((38 + v3)).toNat) - 1)) u_19.1 u_19.2.1 u_19.2.2.1 u_19.2.2.2.1 u_19.2.2.2.2.1 u_19.2.2.2.2.2.1 u_19.2.2.2.2.2.2.1 u_19.2.2.2.2.2.2.2.1 u_19.2.2.2.2.2.2.2.2.1 u_19.2.2.2.2.2.2.2.2.2))))) ∧ (¬ b1 < 0 → ((sm b1 ∧ sm r_20) ∧ ((b1 ≤ r_20 → ((zn v2 ∧ zn 0) ∧ (∀ x2_51 : Int, x2_51 = (zor v2 0) → (∀ x3_53 : Int, x3_53 = v3 + 1 → iv_X5_helps_L9 K b1 n x2_51 x3_53 (uz (uz m_state ((38 + v3)).toNat ((m_state ((38 + v3)).toNat) + 1)) ((38 + v3)).toNat (((uz m_state ((38 + v3)).toNat ((m_state ((38 + v3)).toNat) + 1)) ((38 + v3)).toNat) - 1)) u_19.1 u_19.2.1 u_19.2.2.1 u_19.2.2.2.1 u_19.2.2.2.2.1 u_19.2.2.2.2.2.1 u_19.2.2.2.2.2.2.1 u_19.2.2.2.2.2.2.2.1 u_19.2.2.2.2.2.2.2.2.1 u_19.2.2.2.2.2.2.2.2.2)))) ∧ (¬ b1 ≤ r_20 → ((0 ≤ v3 ∧ v3 < 30) ∧ ((zn v2 ∧ zn (2 ^ (v3).toNat)) ∧ (∀ x2_59 : Int, x2_59 = (zor v2 (2 ^ (v3).toNat)) → (∀ x3_61 : Int, x3_61 = v3 + 1 → iv_X5_helps_L9 K b1 n x2_59 x3_61 (uz (uz m_state ((38 + v3)).toNat ((m_state ((38 + v3)).toNat) + 1)) ((38 + v3)).toNat (((uz m_state ((38 + v3)).toNat ((m_state ((38 + v3)).toNat) + 1)) ((38 + v3)).toNat) - 1)) u_19.1 u_19.2.1 u_19.2.2.1 u_19.2.2.2.1 u_19.2.2.2.2.1 u_19.2.2.2.2.2.1 u_19.2.2.2.2.2.2.1 u_19.2.2.2.2.2.2.2.1 u_19.2.2.2.2.2.2.2.2.1 u_19.2.2.2.2.2.2.2.2.2))))))))))))))))))))))))

set_option maxHeartbeats 4000000 in
theorem lift_X5_helps_L9 {K0 : Int32 → (Nat → Int32) → (Nat → Int32) → (Nat → Int32) → (Nat → Int32) → (Nat → Int32) → (Nat → Int32) → (Nat → Int32) → Int32 → Int32 → Int32 → Int32 → Prop} {K : Int → (Nat → Int) → (Nat → Int) → (Nat → Int) → (Nat → Int) → (Nat → Int) → (Nat → Int) → (Nat → Int) → Int → Int → Int → Int → Prop} {b1' : Int32} {b1 : Int} (e_b1 : b1' = iz b1)  (hKx : ∀ (k2' : Int32) (k_m_state' : (Nat → Int32)) (k_m_goes' : (Nat → Int32)) (k_m_waits' : (Nat → Int32)) (k_m_still' : (Nat → Int32)) (k_m_cameFrom' : (Nat → Int32)) (k_m_cameBy' : (Nat → Int32)) (k_m_wave' : (Nat → Int32)) (k_m_waved' : Int32) (k_m_goal' : Int32) (k_m_goalBy' : Int32) (k_m_until' : Int32) (k2 : Int) (k_m_state : (Nat → Int)) (k_m_goes : (Nat → Int)) (k_m_waits : (Nat → Int)) (k_m_still : (Nat → Int)) (k_m_cameFrom : (Nat → Int)) (k_m_cameBy : (Nat → Int)) (k_m_wave : (Nat → Int)) (k_m_waved : Int) (k_m_goal : Int) (k_m_goalBy : Int) (k_m_until : Int), K k2 k_m_state k_m_goes k_m_waits k_m_still k_m_cameFrom k_m_cameBy k_m_wave k_m_waved k_m_goal k_m_goalBy k_m_until → k2' = iz k2 → k_m_state' = az k_m_state → k_m_goes' = az k_m_goes → k_m_waits' = az k_m_waits → k_m_still' = az k_m_still → k_m_cameFrom' = az k_m_cameFrom → k_m_cameBy' = az k_m_cameBy → k_m_wave' = az k_m_wave → k_m_waved' = iz k_m_waved → k_m_goal' = iz k_m_goal → k_m_goalBy' = iz k_m_goalBy → k_m_until' = iz k_m_until →  K0 k2' k_m_state' k_m_goes' k_m_waits' k_m_still' k_m_cameFrom' k_m_cameBy' k_m_wave' k_m_waved' k_m_goal' k_m_goalBy' k_m_until') :
    ∀ (n : Nat) (v2' : Int32) (v3' : Int32) (m_state' : (Nat → Int32)) (m_goes' : (Nat → Int32)) (m_waits' : (Nat → Int32)) (m_still' : (Nat → Int32)) (m_cameFrom' : (Nat → Int32)) (m_cameBy' : (Nat → Int32)) (m_wave' : (Nat → Int32)) (m_waved' : Int32) (m_goal' : Int32) (m_goalBy' : Int32) (m_until' : Int32) (v2 : Int) (v3 : Int) (m_state : (Nat → Int)) (m_goes : (Nat → Int)) (m_waits : (Nat → Int)) (m_still : (Nat → Int)) (m_cameFrom : (Nat → Int)) (m_cameBy : (Nat → Int)) (m_wave : (Nat → Int)) (m_waved : Int) (m_goal : Int) (m_goalBy : Int) (m_until : Int) (e_v2 : v2' = iz v2) (e_v3 : v3' = iz v3) (e_m_state : m_state' = az m_state) (e_m_goes : m_goes' = az m_goes) (e_m_waits : m_waits' = az m_waits) (e_m_still : m_still' = az m_still) (e_m_cameFrom : m_cameFrom' = az m_cameFrom) (e_m_cameBy : m_cameBy' = az m_cameBy) (e_m_wave : m_wave' = az m_wave) (e_m_waved : m_waved' = iz m_waved) (e_m_goal : m_goal' = iz m_goal) (e_m_goalBy : m_goalBy' = iz m_goalBy) (e_m_until : m_until' = iz m_until), iv_X5_helps_L9 K b1 n v2 v3 m_state m_goes m_waits m_still m_cameFrom m_cameBy m_wave m_waved m_goal m_goalBy m_until → vc_X5_helps_L9 K0 b1' n v2' v3' m_state' m_goes' m_waits' m_still' m_cameFrom' m_cameBy' m_wave' m_waved' m_goal' m_goalBy' m_until' := by
  subst e_b1
  intro n
  induction n with
  | zero =>
    intro v2' v3' m_state' m_goes' m_waits' m_still' m_cameFrom' m_cameBy' m_wave' m_waved' m_goal' m_goalBy' m_until' v2 v3 m_state m_goes m_waits m_still m_cameFrom m_cameBy m_wave m_waved m_goal m_goalBy m_until e_v2 e_v3 e_m_state e_m_goes e_m_waits e_m_still e_m_cameFrom e_m_cameBy e_m_wave e_m_waved e_m_goal e_m_goalBy e_m_until hv
    exact False.elim hv
  | succ n ih =>
    intro v2' v3' m_state' m_goes' m_waits' m_still' m_cameFrom' m_cameBy' m_wave' m_waved' m_goal' m_goalBy' m_until' v2 v3 m_state m_goes m_waits m_still m_cameFrom m_cameBy m_wave m_waved m_goal m_goalBy m_until e_v2 e_v3 e_m_state e_m_goes e_m_waits e_m_still e_m_cameFrom e_m_cameBy e_m_wave e_m_waved e_m_goal e_m_goalBy e_m_until hv
    subst e_v2
    subst e_v3
    subst e_m_state
    subst e_m_goes
    subst e_m_waits
    subst e_m_still
    subst e_m_cameFrom
    subst e_m_cameBy
    subst e_m_wave
    subst e_m_waved
    subst e_m_goal
    subst e_m_goalBy
    subst e_m_until
    rw [iv_X5_helps_L9] at hv
    rw [vc_X5_helps_L9]
    refine lift_X5_many (by first | with_reducible rfl | simp only [zl, iz_add, iz_sub, iz_mul, iz_neg]) hv (fun r_8 u_7 y_9 y_10 hv er_11 eu_12 => ?_)
    subst er_11; subst eu_12
    try dsimp only
    obtain ⟨hs_13, hv⟩ := hv
    have q_14 := z_le (x := (iz r_8)) (a := r_8) (by first | with_reducible rfl | simp only [zl, iz_add, iz_sub, iz_mul, iz_neg]) (y := (iz v3)) (b := v3) (by first | with_reducible rfl | simp only [zl, iz_add, iz_sub, iz_mul, iz_neg]) hs_13.1 hs_13.2
    refine ⟨fun c9 => ?_, fun c9 => ?_⟩
    · have hv := hv.1 (q_14.mp c9)
      exact hKx _ _ _ _ _ _ _ _ _ _ _ _ v2 m_state m_goes m_waits m_still m_cameFrom m_cameBy m_wave m_waved m_goal m_goalBy m_until hv (by first | with_reducible rfl | simp only [zl, iz_add, iz_sub, iz_mul, iz_neg]) (by first | with_reducible rfl | simp only [zl, iz_add, iz_sub, iz_mul, iz_neg]) (by first | with_reducible rfl | simp only [zl, iz_add, iz_sub, iz_mul, iz_neg]) (by first | with_reducible rfl | simp only [zl, iz_add, iz_sub, iz_mul, iz_neg]) (by first | with_reducible rfl | simp only [zl, iz_add, iz_sub, iz_mul, iz_neg]) (by first | with_reducible rfl | simp only [zl, iz_add, iz_sub, iz_mul, iz_neg]) (by first | with_reducible rfl | simp only [zl, iz_add, iz_sub, iz_mul, iz_neg]) (by first | with_reducible rfl | simp only [zl, iz_add, iz_sub, iz_mul, iz_neg]) (by first | with_reducible rfl | simp only [zl, iz_add, iz_sub, iz_mul, iz_neg]) (by first | with_reducible rfl | simp only [zl, iz_add, iz_sub, iz_mul, iz_neg]) (by first | with_reducible rfl | simp only [zl, iz_add, iz_sub, iz_mul, iz_neg]) (by first | with_reducible rfl | simp only [zl, iz_add, iz_sub, iz_mul, iz_neg])
    · have hv := hv.2 (fun z9 => c9 (q_14.mpr z9))
      obtain ⟨hi_15, hv⟩ := hv
      refine ⟨z_in (by first | with_reducible rfl | simp only [zl, iz_add, iz_sub, iz_mul, iz_neg]) hi_15 (by decide), ?_⟩
      have e_16 : ((az m_state) ((38 + (iz v3))).toNatClampNeg) = iz (m_state ((38 + v3)).toNat) := z_at (by first | with_reducible rfl | simp only [zl, iz_add, iz_sub, iz_mul, iz_neg]) (by first | with_reducible rfl | simp only [zl, iz_add, iz_sub, iz_mul, iz_neg]) hi_15 (by decide)
      try rw [e_16]
      obtain ⟨hi_17, hv⟩ := hv
      refine ⟨z_in (by first | with_reducible rfl | simp only [zl, iz_add, iz_sub, iz_mul, iz_neg]) hi_17 (by decide), ?_⟩
      have e_18 : (upd (az m_state) ((38 + (iz v3))).toNatClampNeg ((iz (m_state ((38 + v3)).toNat)) + 1)) = az (uz m_state ((38 + v3)).toNat ((m_state ((38 + v3)).toNat) + 1)) := z_upd (by first | with_reducible rfl | simp only [zl, iz_add, iz_sub, iz_mul, iz_neg]) (by first | with_reducible rfl | simp only [zl, iz_add, iz_sub, iz_mul, iz_neg]) (by first | with_reducible rfl | simp only [zl, iz_add, iz_sub, iz_mul, iz_neg]) hi_17 (by decide)
      try rw [e_18]
      refine lift_X5_lastOne (by first | with_reducible rfl | simp only [zl, iz_add, iz_sub, iz_mul, iz_neg]) (by first | with_reducible rfl | simp only [zl, iz_add, iz_sub, iz_mul, iz_neg]) (by first | with_reducible rfl | simp only [zl, iz_add, iz_sub, iz_mul, iz_neg]) (by first | with_reducible rfl | simp only [zl, iz_add, iz_sub, iz_mul, iz_neg]) (by first | with_reducible rfl | simp only [zl, iz_add, iz_sub, iz_mul, iz_neg]) (by first | with_reducible rfl | simp only [zl, iz_add, iz_sub, iz_mul, iz_neg]) (by first | with_reducible rfl | simp only [zl, iz_add, iz_sub, iz_mul, iz_neg]) (by first | with_reducible rfl | simp only [zl, iz_add, iz_sub, iz_mul, iz_neg]) (by first | with_reducible rfl | simp only [zl, iz_add, iz_sub, iz_mul, iz_neg]) (by first | with_reducible rfl | simp only [zl, iz_add, iz_sub, iz_mul, iz_neg]) (by first | with_reducible rfl | simp only [zl, iz_add, iz_sub, iz_mul, iz_neg]) hv (fun r_20 u_19 y_21 y_22 hv er_23 eu_24 => ?_)
      subst er_23; subst eu_24
      try dsimp only
      obtain ⟨hi_25, hv⟩ := hv
      refine ⟨z_in (by first | with_reducible rfl | simp only [zl, iz_add, iz_sub, iz_mul, iz_neg]) hi_25 (by decide), ?_⟩
      have e_26 : ((az (uz m_state ((38 + v3)).toNat ((m_state ((38 + v3)).toNat) + 1))) ((38 + (iz v3))).toNatClampNeg) = iz ((uz m_state ((38 + v3)).toNat ((m_state ((38 + v3)).toNat) + 1)) ((38 + v3)).toNat) := z_at (by first | with_reducible rfl | simp only [zl, iz_add, iz_sub, iz_mul, iz_neg]) (by first | with_reducible rfl | simp only [zl, iz_add, iz_sub, iz_mul, iz_neg]) hi_25 (by decide)
      try rw [e_26]
      obtain ⟨hi_27, hv⟩ := hv
      refine ⟨z_in (by first | with_reducible rfl | simp only [zl, iz_add, iz_sub, iz_mul, iz_neg]) hi_27 (by decide), ?_⟩
      have e_28 : (upd (az (uz m_state ((38 + v3)).toNat ((m_state ((38 + v3)).toNat) + 1))) ((38 + (iz v3))).toNatClampNeg ((iz ((uz m_state ((38 + v3)).toNat ((m_state ((38 + v3)).toNat) + 1)) ((38 + v3)).toNat)) - 1)) = az (uz (uz m_state ((38 + v3)).toNat ((m_state ((38 + v3)).toNat) + 1)) ((38 + v3)).toNat (((uz m_state ((38 + v3)).toNat ((m_state ((38 + v3)).toNat) + 1)) ((38 + v3)).toNat) - 1)) := z_upd (by first | with_reducible rfl | simp only [zl, iz_add, iz_sub, iz_mul, iz_neg]) (by first | with_reducible rfl | simp only [zl, iz_add, iz_sub, iz_mul, iz_neg]) (by first | with_reducible rfl | simp only [zl, iz_add, iz_sub, iz_mul, iz_neg]) hi_27 (by decide)
      try rw [e_28]
      obtain ⟨hs_29, hv⟩ := hv
      have q_30 := z_lt (x := (iz r_20)) (a := r_20) (by first | with_reducible rfl | simp only [zl, iz_add, iz_sub, iz_mul, iz_neg]) (y := 0) (b := 0) (by first | with_reducible rfl | simp only [zl, iz_add, iz_sub, iz_mul, iz_neg]) hs_29.1 hs_29.2
      refine ⟨fun c9 => ?_, fun c9 => ?_⟩
      · have hv := hv.1 (q_30.mp c9)
        obtain ⟨hc_31, hv⟩ := hv
        have e_32 : ((iz v2) ||| 0) = iz (zor v2 0) := z_or (by first | with_reducible rfl | simp only [zl, iz_add, iz_sub, iz_mul, iz_neg]) (by first | with_reducible rfl | simp only [zl, iz_add, iz_sub, iz_mul, iz_neg]) hc_31.1 hc_31.2
        try rw [e_32]
        intro y_34 hy_34
        obtain ⟨x2_33, hx2_33⟩ : ∃ z : Int, z = (zor v2 0) := ⟨_, rfl⟩
        have hv := hv x2_33 hx2_33
        have ey_34 : y_34 = iz x2_33 := by rw [hy_34, hx2_33]; try exact (by first | with_reducible rfl | simp only [zl, iz_add, iz_sub, iz_mul, iz_neg])
        subst ey_34
        intro y_36 hy_36
        obtain ⟨x3_35, hx3_35⟩ : ∃ z : Int, z = v3 + 1 := ⟨_, rfl⟩
        have hv := hv x3_35 hx3_35
        have ey_36 : y_36 = iz x3_35 := by rw [hy_36, hx3_35]; try exact (by first | with_reducible rfl | simp only [zl, iz_add, iz_sub, iz_mul, iz_neg])
        subst ey_36
        exact ih _ _ _ _ _ _ _ _ _ _ _ _ _ x2_33 x3_35 (uz (uz m_state ((38 + v3)).toNat ((m_state ((38 + v3)).toNat) + 1)) ((38 + v3)).toNat (((uz m_state ((38 + v3)).toNat ((m_state ((38 + v3)).toNat) + 1)) ((38 + v3)).toNat) - 1)) u_19.1 u_19.2.1 u_19.2.2.1 u_19.2.2.2.1 u_19.2.2.2.2.1 u_19.2.2.2.2.2.1 u_19.2.2.2.2.2.2.1 u_19.2.2.2.2.2.2.2.1 u_19.2.2.2.2.2.2.2.2.1 u_19.2.2.2.2.2.2.2.2.2 (by first | with_reducible rfl | simp only [zl, iz_add, iz_sub, iz_mul, iz_neg]) (by first | with_reducible rfl | simp only [zl, iz_add, iz_sub, iz_mul, iz_neg]) (by first | with_reducible rfl | simp only [zl, iz_add, iz_sub, iz_mul, iz_neg]) (by first | with_reducible rfl | simp only [zl, iz_add, iz_sub, iz_mul, iz_neg]) (by first | with_reducible rfl | simp only [zl, iz_add, iz_sub, iz_mul, iz_neg]) (by first | with_reducible rfl | simp only [zl, iz_add, iz_sub, iz_mul, iz_neg]) (by first | with_reducible rfl | simp only [zl, iz_add, iz_sub, iz_mul, iz_neg]) (by first | with_reducible rfl | simp only [zl, iz_add, iz_sub, iz_mul, iz_neg]) (by first | with_reducible rfl | simp only [zl, iz_add, iz_sub, iz_mul, iz_neg]) (by first | with_reducible rfl | simp only [zl, iz_add, iz_sub, iz_mul, iz_neg]) (by first | with_reducible rfl | simp only [zl, iz_add, iz_sub, iz_mul, iz_neg]) (by first | with_reducible rfl | simp only [zl, iz_add, iz_sub, iz_mul, iz_neg]) (by first | with_reducible rfl | simp only [zl, iz_add, iz_sub, iz_mul, iz_neg]) hv
      · have hv := hv.2 (fun z9 => c9 (q_30.mpr z9))
        obtain ⟨hs_37, hv⟩ := hv
        have q_38 := z_lt (x := (iz b1)) (a := b1) (by first | with_reducible rfl | simp only [zl, iz_add, iz_sub, iz_mul, iz_neg]) (y := 0) (b := 0) (by first | with_reducible rfl | simp only [zl, iz_add, iz_sub, iz_mul, iz_neg]) hs_37.1 hs_37.2
        refine ⟨fun c9 => ?_, fun c9 => ?_⟩
        · have hv := hv.1 (q_38.mp c9)
          obtain ⟨hc_39, hv⟩ := hv
          have e_40 : (1 <<< ((iz v3) &&& 31)) = iz (2 ^ (v3).toNat) := z_shl (by first | with_reducible rfl | simp only [zl, iz_add, iz_sub, iz_mul, iz_neg]) hc_39
          try rw [e_40]
          obtain ⟨hc_41, hv⟩ := hv
          have e_42 : ((iz v2) ||| (iz (2 ^ (v3).toNat))) = iz (zor v2 (2 ^ (v3).toNat)) := z_or (by first | with_reducible rfl | simp only [zl, iz_add, iz_sub, iz_mul, iz_neg]) (by first | with_reducible rfl | simp only [zl, iz_add, iz_sub, iz_mul, iz_neg]) hc_41.1 hc_41.2
          try rw [e_42]
          intro y_44 hy_44
          obtain ⟨x2_43, hx2_43⟩ : ∃ z : Int, z = (zor v2 (2 ^ (v3).toNat)) := ⟨_, rfl⟩
          have hv := hv x2_43 hx2_43
          have ey_44 : y_44 = iz x2_43 := by rw [hy_44, hx2_43]; try exact (by first | with_reducible rfl | simp only [zl, iz_add, iz_sub, iz_mul, iz_neg])
          subst ey_44
          intro y_46 hy_46
          obtain ⟨x3_45, hx3_45⟩ : ∃ z : Int, z = v3 + 1 := ⟨_, rfl⟩
          have hv := hv x3_45 hx3_45
          have ey_46 : y_46 = iz x3_45 := by rw [hy_46, hx3_45]; try exact (by first | with_reducible rfl | simp only [zl, iz_add, iz_sub, iz_mul, iz_neg])
          subst ey_46
          exact ih _ _ _ _ _ _ _ _ _ _ _ _ _ x2_43 x3_45 (uz (uz m_state ((38 + v3)).toNat ((m_state ((38 + v3)).toNat) + 1)) ((38 + v3)).toNat (((uz m_state ((38 + v3)).toNat ((m_state ((38 + v3)).toNat) + 1)) ((38 + v3)).toNat) - 1)) u_19.1 u_19.2.1 u_19.2.2.1 u_19.2.2.2.1 u_19.2.2.2.2.1 u_19.2.2.2.2.2.1 u_19.2.2.2.2.2.2.1 u_19.2.2.2.2.2.2.2.1 u_19.2.2.2.2.2.2.2.2.1 u_19.2.2.2.2.2.2.2.2.2 (by first | with_reducible rfl | simp only [zl, iz_add, iz_sub, iz_mul, iz_neg]) (by first | with_reducible rfl | simp only [zl, iz_add, iz_sub, iz_mul, iz_neg]) (by first | with_reducible rfl | simp only [zl, iz_add, iz_sub, iz_mul, iz_neg]) (by first | with_reducible rfl | simp only [zl, iz_add, iz_sub, iz_mul, iz_neg]) (by first | with_reducible rfl | simp only [zl, iz_add, iz_sub, iz_mul, iz_neg]) (by first | with_reducible rfl | simp only [zl, iz_add, iz_sub, iz_mul, iz_neg]) (by first | with_reducible rfl | simp only [zl, iz_add, iz_sub, iz_mul, iz_neg]) (by first | with_reducible rfl | simp only [zl, iz_add, iz_sub, iz_mul, iz_neg]) (by first | with_reducible rfl | simp only [zl, iz_add, iz_sub, iz_mul, iz_neg]) (by first | with_reducible rfl | simp only [zl, iz_add, iz_sub, iz_mul, iz_neg]) (by first | with_reducible rfl | simp only [zl, iz_add, iz_sub, iz_mul, iz_neg]) (by first | with_reducible rfl | simp only [zl, iz_add, iz_sub, iz_mul, iz_neg]) (by first | with_reducible rfl | simp only [zl, iz_add, iz_sub, iz_mul, iz_neg]) hv
        · have hv := hv.2 (fun z9 => c9 (q_38.mpr z9))
          obtain ⟨hs_47, hv⟩ := hv
          have q_48 := z_le (x := (iz b1)) (a := b1) (by first | with_reducible rfl | simp only [zl, iz_add, iz_sub, iz_mul, iz_neg]) (y := (iz r_20)) (b := r_20) (by first | with_reducible rfl | simp only [zl, iz_add, iz_sub, iz_mul, iz_neg]) hs_47.1 hs_47.2
          refine ⟨fun c9 => ?_, fun c9 => ?_⟩
          · have hv := hv.1 (q_48.mp c9)
            obtain ⟨hc_49, hv⟩ := hv
            have e_50 : ((iz v2) ||| 0) = iz (zor v2 0) := z_or (by first | with_reducible rfl | simp only [zl, iz_add, iz_sub, iz_mul, iz_neg]) (by first | with_reducible rfl | simp only [zl, iz_add, iz_sub, iz_mul, iz_neg]) hc_49.1 hc_49.2
            try rw [e_50]
            intro y_52 hy_52
            obtain ⟨x2_51, hx2_51⟩ : ∃ z : Int, z = (zor v2 0) := ⟨_, rfl⟩
            have hv := hv x2_51 hx2_51
            have ey_52 : y_52 = iz x2_51 := by rw [hy_52, hx2_51]; try exact (by first | with_reducible rfl | simp only [zl, iz_add, iz_sub, iz_mul, iz_neg])
            subst ey_52
            intro y_54 hy_54
            obtain ⟨x3_53, hx3_53⟩ : ∃ z : Int, z = v3 + 1 := ⟨_, rfl⟩
            have hv := hv x3_53 hx3_53
            have ey_54 : y_54 = iz x3_53 := by rw [hy_54, hx3_53]; try exact (by first | with_reducible rfl | simp only [zl, iz_add, iz_sub, iz_mul, iz_neg])
            subst ey_54
            exact ih _ _ _ _ _ _ _ _ _ _ _ _ _ x2_51 x3_53 (uz (uz m_state ((38 + v3)).toNat ((m_state ((38 + v3)).toNat) + 1)) ((38 + v3)).toNat (((uz m_state ((38 + v3)).toNat ((m_state ((38 + v3)).toNat) + 1)) ((38 + v3)).toNat) - 1)) u_19.1 u_19.2.1 u_19.2.2.1 u_19.2.2.2.1 u_19.2.2.2.2.1 u_19.2.2.2.2.2.1 u_19.2.2.2.2.2.2.1 u_19.2.2.2.2.2.2.2.1 u_19.2.2.2.2.2.2.2.2.1 u_19.2.2.2.2.2.2.2.2.2 (by first | with_reducible rfl | simp only [zl, iz_add, iz_sub, iz_mul, iz_neg]) (by first | with_reducible rfl | simp only [zl, iz_add, iz_sub, iz_mul, iz_neg]) (by first | with_reducible rfl | simp only [zl, iz_add, iz_sub, iz_mul, iz_neg]) (by first | with_reducible rfl | simp only [zl, iz_add, iz_sub, iz_mul, iz_neg]) (by first | with_reducible rfl | simp only [zl, iz_add, iz_sub, iz_mul, iz_neg]) (by first | with_reducible rfl | simp only [zl, iz_add, iz_sub, iz_mul, iz_neg]) (by first | with_reducible rfl | simp only [zl, iz_add, iz_sub, iz_mul, iz_neg]) (by first | with_reducible rfl | simp only [zl, iz_add, iz_sub, iz_mul, iz_neg]) (by first | with_reducible rfl | simp only [zl, iz_add, iz_sub, iz_mul, iz_neg]) (by first | with_reducible rfl | simp only [zl, iz_add, iz_sub, iz_mul, iz_neg]) (by first | with_reducible rfl | simp only [zl, iz_add, iz_sub, iz_mul, iz_neg]) (by first | with_reducible rfl | simp only [zl, iz_add, iz_sub, iz_mul, iz_neg]) (by first | with_reducible rfl | simp only [zl, iz_add, iz_sub, iz_mul, iz_neg]) hv
          · have hv := hv.2 (fun z9 => c9 (q_48.mpr z9))
            obtain ⟨hc_55, hv⟩ := hv
            have e_56 : (1 <<< ((iz v3) &&& 31)) = iz (2 ^ (v3).toNat) := z_shl (by first | with_reducible rfl | simp only [zl, iz_add, iz_sub, iz_mul, iz_neg]) hc_55
            try rw [e_56]
            obtain ⟨hc_57, hv⟩ := hv
            have e_58 : ((iz v2) ||| (iz (2 ^ (v3).toNat))) = iz (zor v2 (2 ^ (v3).toNat)) := z_or (by first | with_reducible rfl | simp only [zl, iz_add, iz_sub, iz_mul, iz_neg]) (by first | with_reducible rfl | simp only [zl, iz_add, iz_sub, iz_mul, iz_neg]) hc_57.1 hc_57.2
            try rw [e_58]
            intro y_60 hy_60
            obtain ⟨x2_59, hx2_59⟩ : ∃ z : Int, z = (zor v2 (2 ^ (v3).toNat)) := ⟨_, rfl⟩
            have hv := hv x2_59 hx2_59
            have ey_60 : y_60 = iz x2_59 := by rw [hy_60, hx2_59]; try exact (by first | with_reducible rfl | simp only [zl, iz_add, iz_sub, iz_mul, iz_neg])
            subst ey_60
            intro y_62 hy_62
            obtain ⟨x3_61, hx3_61⟩ : ∃ z : Int, z = v3 + 1 := ⟨_, rfl⟩
            have hv := hv x3_61 hx3_61
            have ey_62 : y_62 = iz x3_61 := by rw [hy_62, hx3_61]; try exact (by first | with_reducible rfl | simp only [zl, iz_add, iz_sub, iz_mul, iz_neg])
            subst ey_62
            exact ih _ _ _ _ _ _ _ _ _ _ _ _ _ x2_59 x3_61 (uz (uz m_state ((38 + v3)).toNat ((m_state ((38 + v3)).toNat) + 1)) ((38 + v3)).toNat (((uz m_state ((38 + v3)).toNat ((m_state ((38 + v3)).toNat) + 1)) ((38 + v3)).toNat) - 1)) u_19.1 u_19.2.1 u_19.2.2.1 u_19.2.2.2.1 u_19.2.2.2.2.1 u_19.2.2.2.2.2.1 u_19.2.2.2.2.2.2.1 u_19.2.2.2.2.2.2.2.1 u_19.2.2.2.2.2.2.2.2.1 u_19.2.2.2.2.2.2.2.2.2 (by first | with_reducible rfl | simp only [zl, iz_add, iz_sub, iz_mul, iz_neg]) (by first | with_reducible rfl | simp only [zl, iz_add, iz_sub, iz_mul, iz_neg]) (by first | with_reducible rfl | simp only [zl, iz_add, iz_sub, iz_mul, iz_neg]) (by first | with_reducible rfl | simp only [zl, iz_add, iz_sub, iz_mul, iz_neg]) (by first | with_reducible rfl | simp only [zl, iz_add, iz_sub, iz_mul, iz_neg]) (by first | with_reducible rfl | simp only [zl, iz_add, iz_sub, iz_mul, iz_neg]) (by first | with_reducible rfl | simp only [zl, iz_add, iz_sub, iz_mul, iz_neg]) (by first | with_reducible rfl | simp only [zl, iz_add, iz_sub, iz_mul, iz_neg]) (by first | with_reducible rfl | simp only [zl, iz_add, iz_sub, iz_mul, iz_neg]) (by first | with_reducible rfl | simp only [zl, iz_add, iz_sub, iz_mul, iz_neg]) (by first | with_reducible rfl | simp only [zl, iz_add, iz_sub, iz_mul, iz_neg]) (by first | with_reducible rfl | simp only [zl, iz_add, iz_sub, iz_mul, iz_neg]) (by first | with_reducible rfl | simp only [zl, iz_add, iz_sub, iz_mul, iz_neg]) hv

def iv_X5_helps (m_state : (Nat → Int)) (m_goes : (Nat → Int)) (m_waits : (Nat → Int)) (m_still : (Nat → Int)) (m_cameFrom : (Nat → Int)) (m_cameBy : (Nat → Int)) (m_wave : (Nat → Int)) (m_waved : Int) (m_goal : Int) (m_goalBy : Int) (m_until : Int) (post : Int → ((Nat → Int) × (Nat → Int) × (Nat → Int) × (Nat → Int) × (Nat → Int) × (Nat → Int) × (Nat → Int) × Int × Int × Int × Int) → Prop) : Prop :=
  (iv_X5_lastOne m_state m_goes m_waits m_still m_cameFrom m_cameBy m_wave m_waved m_goal m_goalBy m_until (fun (r_2 : Int) (u_1 : (Nat → Int) × (Nat → Int) × (Nat → Int) × (Nat → Int) × (Nat → Int) × (Nat → Int) × Int × Int × Int × Int) => (∃ n_75, iv_X5_helps_L9 (fun k2_63 m_state_64 m_goes_65 m_waits_66 m_still_67 m_cameFrom_68 m_cameBy_69 m_wave_70 m_waved_71 m_goal_72 m_goalBy_73 m_until_74 => post k2_63 (m_state_64, m_goes_65, m_waits_66, m_still_67, m_cameFrom_68, m_cameBy_69, m_wave_70, m_waved_71, m_goal_72, m_goalBy_73, m_until_74))  r_2 n_75 0 0 m_state u_1.1 u_1.2.1 u_1.2.2.1 u_1.2.2.2.1 u_1.2.2.2.2.1 u_1.2.2.2.2.2.1 u_1.2.2.2.2.2.2.1 u_1.2.2.2.2.2.2.2.1 u_1.2.2.2.2.2.2.2.2.1 u_1.2.2.2.2.2.2.2.2.2)))

set_option maxHeartbeats 4000000 in
theorem lift_X5_helps {m_state' : (Nat → Int32)} {m_state : (Nat → Int)} {m_goes' : (Nat → Int32)} {m_goes : (Nat → Int)} {m_waits' : (Nat → Int32)} {m_waits : (Nat → Int)} {m_still' : (Nat → Int32)} {m_still : (Nat → Int)} {m_cameFrom' : (Nat → Int32)} {m_cameFrom : (Nat → Int)} {m_cameBy' : (Nat → Int32)} {m_cameBy : (Nat → Int)} {m_wave' : (Nat → Int32)} {m_wave : (Nat → Int)} {m_waved' : Int32} {m_waved : Int} {m_goal' : Int32} {m_goal : Int} {m_goalBy' : Int32} {m_goalBy : Int} {m_until' : Int32} {m_until : Int} (e_m_state : m_state' = az m_state) (e_m_goes : m_goes' = az m_goes) (e_m_waits : m_waits' = az m_waits) (e_m_still : m_still' = az m_still) (e_m_cameFrom : m_cameFrom' = az m_cameFrom) (e_m_cameBy : m_cameBy' = az m_cameBy) (e_m_wave : m_wave' = az m_wave) (e_m_waved : m_waved' = iz m_waved) (e_m_goal : m_goal' = iz m_goal) (e_m_goalBy : m_goalBy' = iz m_goalBy) (e_m_until : m_until' = iz m_until) {post0 : Int32 → ((Nat → Int32) × (Nat → Int32) × (Nat → Int32) × (Nat → Int32) × (Nat → Int32) × (Nat → Int32) × (Nat → Int32) × Int32 × Int32 × Int32 × Int32) → Prop} {post : Int → ((Nat → Int) × (Nat → Int) × (Nat → Int) × (Nat → Int) × (Nat → Int) × (Nat → Int) × (Nat → Int) × Int × Int × Int × Int) → Prop} (hv : iv_X5_helps m_state m_goes m_waits m_still m_cameFrom m_cameBy m_wave m_waved m_goal m_goalBy m_until post) (hp : ∀ (r : Int) (u : (Nat → Int) × (Nat → Int) × (Nat → Int) × (Nat → Int) × (Nat → Int) × (Nat → Int) × (Nat → Int) × Int × Int × Int × Int) (x : Int32) (y : (Nat → Int32) × (Nat → Int32) × (Nat → Int32) × (Nat → Int32) × (Nat → Int32) × (Nat → Int32) × (Nat → Int32) × Int32 × Int32 × Int32 × Int32), post r u → x = iz r → y = (az u.1, az u.2.1, az u.2.2.1, az u.2.2.2.1, az u.2.2.2.2.1, az u.2.2.2.2.2.1, az u.2.2.2.2.2.2.1, iz u.2.2.2.2.2.2.2.1, iz u.2.2.2.2.2.2.2.2.1, iz u.2.2.2.2.2.2.2.2.2.1, iz u.2.2.2.2.2.2.2.2.2.2) → post0 x y) : vc_X5_helps m_state' m_goes' m_waits' m_still' m_cameFrom' m_cameBy' m_wave' m_waved' m_goal' m_goalBy' m_until' post0 := by
  subst e_m_state
  subst e_m_goes
  subst e_m_waits
  subst e_m_still
  subst e_m_cameFrom
  subst e_m_cameBy
  subst e_m_wave
  subst e_m_waved
  subst e_m_goal
  subst e_m_goalBy
  subst e_m_until
  rw [iv_X5_helps] at hv
  rw [vc_X5_helps]
  refine lift_X5_lastOne (by first | with_reducible rfl | simp only [zl, iz_add, iz_sub, iz_mul, iz_neg]) (by first | with_reducible rfl | simp only [zl, iz_add, iz_sub, iz_mul, iz_neg]) (by first | with_reducible rfl | simp only [zl, iz_add, iz_sub, iz_mul, iz_neg]) (by first | with_reducible rfl | simp only [zl, iz_add, iz_sub, iz_mul, iz_neg]) (by first | with_reducible rfl | simp only [zl, iz_add, iz_sub, iz_mul, iz_neg]) (by first | with_reducible rfl | simp only [zl, iz_add, iz_sub, iz_mul, iz_neg]) (by first | with_reducible rfl | simp only [zl, iz_add, iz_sub, iz_mul, iz_neg]) (by first | with_reducible rfl | simp only [zl, iz_add, iz_sub, iz_mul, iz_neg]) (by first | with_reducible rfl | simp only [zl, iz_add, iz_sub, iz_mul, iz_neg]) (by first | with_reducible rfl | simp only [zl, iz_add, iz_sub, iz_mul, iz_neg]) (by first | with_reducible rfl | simp only [zl, iz_add, iz_sub, iz_mul, iz_neg]) hv (fun r_2 u_1 y_3 y_4 hv er_5 eu_6 => ?_)
  subst er_5; subst eu_6
  try dsimp only
  obtain ⟨n_75, hv⟩ := hv
  refine ⟨n_75, lift_X5_helps_L9 (by first | with_reducible rfl | simp only [zl, iz_add, iz_sub, iz_mul, iz_neg]) (fun y_76 y_77 y_78 y_79 y_80 y_81 y_82 y_83 y_84 y_85 y_86 y_87 k2_63 m_state_64 m_goes_65 m_waits_66 m_still_67 m_cameFrom_68 m_cameBy_69 m_wave_70 m_waved_71 m_goal_72 m_goalBy_73 m_until_74 hv ey_88 ey_89 ey_90 ey_91 ey_92 ey_93 ey_94 ey_95 ey_96 ey_97 ey_98 ey_99 => ?_)  n_75 _ _ _ _ _ _ _ _ _ _ _ _ _ 0 0 m_state u_1.1 u_1.2.1 u_1.2.2.1 u_1.2.2.2.1 u_1.2.2.2.2.1 u_1.2.2.2.2.2.1 u_1.2.2.2.2.2.2.1 u_1.2.2.2.2.2.2.2.1 u_1.2.2.2.2.2.2.2.2.1 u_1.2.2.2.2.2.2.2.2.2 (by first | with_reducible rfl | simp only [zl, iz_add, iz_sub, iz_mul, iz_neg]) (by first | with_reducible rfl | simp only [zl, iz_add, iz_sub, iz_mul, iz_neg]) (by first | with_reducible rfl | simp only [zl, iz_add, iz_sub, iz_mul, iz_neg]) (by first | with_reducible rfl | simp only [zl, iz_add, iz_sub, iz_mul, iz_neg]) (by first | with_reducible rfl | simp only [zl, iz_add, iz_sub, iz_mul, iz_neg]) (by first | with_reducible rfl | simp only [zl, iz_add, iz_sub, iz_mul, iz_neg]) (by first | with_reducible rfl | simp only [zl, iz_add, iz_sub, iz_mul, iz_neg]) (by first | with_reducible rfl | simp only [zl, iz_add, iz_sub, iz_mul, iz_neg]) (by first | with_reducible rfl | simp only [zl, iz_add, iz_sub, iz_mul, iz_neg]) (by first | with_reducible rfl | simp only [zl, iz_add, iz_sub, iz_mul, iz_neg]) (by first | with_reducible rfl | simp only [zl, iz_add, iz_sub, iz_mul, iz_neg]) (by first | with_reducible rfl | simp only [zl, iz_add, iz_sub, iz_mul, iz_neg]) (by first | with_reducible rfl | simp only [zl, iz_add, iz_sub, iz_mul, iz_neg]) hv⟩
  subst ey_88
  subst ey_89
  subst ey_90
  subst ey_91
  subst ey_92
  subst ey_93
  subst ey_94
  subst ey_95
  subst ey_96
  subst ey_97
  subst ey_98
  subst ey_99
  exact hp _ _ _ _ hv (by first | with_reducible rfl | simp only [zl, iz_add, iz_sub, iz_mul, iz_neg]) (by first | with_reducible rfl | simp only [zl, iz_add, iz_sub, iz_mul, iz_neg])

def iv_X5_lastShut (a1 : Int) (a2 : Int) (m_state : (Nat → Int)) (m_goes : (Nat → Int)) (m_waits : (Nat → Int)) (m_still : (Nat → Int)) (m_cameFrom : (Nat → Int)) (m_cameBy : (Nat → Int)) (m_wave : (Nat → Int)) (m_waved : Int) (m_goal : Int) (m_goalBy : Int) (m_until : Int) (post : Int → ((Nat → Int) × (Nat → Int) × (Nat → Int) × (Nat → Int) × (Nat → Int) × (Nat → Int) × (Nat → Int) × Int × Int × Int × Int) → Prop) : Prop :=
  ((0 ≤ (58 + a1) ∧ (58 + a1) < 69) ∧ (∀ x3_3 : Int, x3_3 = (m_state ((58 + a1)).toNat) → ((0 ≤ (58 + a1) ∧ (58 + a1) < 69) ∧ (iv_X5_lastOne (uz m_state ((58 + a1)).toNat a2) m_goes m_waits m_still m_cameFrom m_cameBy m_wave m_waved m_goal m_goalBy m_until (fun (r_8 : Int) (u_7 : (Nat → Int) × (Nat → Int) × (Nat → Int) × (Nat → Int) × (Nat → Int) × (Nat → Int) × Int × Int × Int × Int) => ((0 ≤ (58 + a1) ∧ (58 + a1) < 69) ∧ post r_8 ((uz (uz m_state ((58 + a1)).toNat a2) ((58 + a1)).toNat x3_3), u_7.1, u_7.2.1, u_7.2.2.1, u_7.2.2.2.1, u_7.2.2.2.2.1, u_7.2.2.2.2.2.1, u_7.2.2.2.2.2.2.1, u_7.2.2.2.2.2.2.2.1, u_7.2.2.2.2.2.2.2.2.1, u_7.2.2.2.2.2.2.2.2.2)))))))

set_option maxHeartbeats 4000000 in
theorem lift_X5_lastShut {a1' : Int32} {a1 : Int} {a2' : Int32} {a2 : Int} {m_state' : (Nat → Int32)} {m_state : (Nat → Int)} {m_goes' : (Nat → Int32)} {m_goes : (Nat → Int)} {m_waits' : (Nat → Int32)} {m_waits : (Nat → Int)} {m_still' : (Nat → Int32)} {m_still : (Nat → Int)} {m_cameFrom' : (Nat → Int32)} {m_cameFrom : (Nat → Int)} {m_cameBy' : (Nat → Int32)} {m_cameBy : (Nat → Int)} {m_wave' : (Nat → Int32)} {m_wave : (Nat → Int)} {m_waved' : Int32} {m_waved : Int} {m_goal' : Int32} {m_goal : Int} {m_goalBy' : Int32} {m_goalBy : Int} {m_until' : Int32} {m_until : Int} (e_a1 : a1' = iz a1) (e_a2 : a2' = iz a2) (e_m_state : m_state' = az m_state) (e_m_goes : m_goes' = az m_goes) (e_m_waits : m_waits' = az m_waits) (e_m_still : m_still' = az m_still) (e_m_cameFrom : m_cameFrom' = az m_cameFrom) (e_m_cameBy : m_cameBy' = az m_cameBy) (e_m_wave : m_wave' = az m_wave) (e_m_waved : m_waved' = iz m_waved) (e_m_goal : m_goal' = iz m_goal) (e_m_goalBy : m_goalBy' = iz m_goalBy) (e_m_until : m_until' = iz m_until) {post0 : Int32 → ((Nat → Int32) × (Nat → Int32) × (Nat → Int32) × (Nat → Int32) × (Nat → Int32) × (Nat → Int32) × (Nat → Int32) × Int32 × Int32 × Int32 × Int32) → Prop} {post : Int → ((Nat → Int) × (Nat → Int) × (Nat → Int) × (Nat → Int) × (Nat → Int) × (Nat → Int) × (Nat → Int) × Int × Int × Int × Int) → Prop} (hv : iv_X5_lastShut a1 a2 m_state m_goes m_waits m_still m_cameFrom m_cameBy m_wave m_waved m_goal m_goalBy m_until post) (hp : ∀ (r : Int) (u : (Nat → Int) × (Nat → Int) × (Nat → Int) × (Nat → Int) × (Nat → Int) × (Nat → Int) × (Nat → Int) × Int × Int × Int × Int) (x : Int32) (y : (Nat → Int32) × (Nat → Int32) × (Nat → Int32) × (Nat → Int32) × (Nat → Int32) × (Nat → Int32) × (Nat → Int32) × Int32 × Int32 × Int32 × Int32), post r u → x = iz r → y = (az u.1, az u.2.1, az u.2.2.1, az u.2.2.2.1, az u.2.2.2.2.1, az u.2.2.2.2.2.1, az u.2.2.2.2.2.2.1, iz u.2.2.2.2.2.2.2.1, iz u.2.2.2.2.2.2.2.2.1, iz u.2.2.2.2.2.2.2.2.2.1, iz u.2.2.2.2.2.2.2.2.2.2) → post0 x y) : vc_X5_lastShut a1' a2' m_state' m_goes' m_waits' m_still' m_cameFrom' m_cameBy' m_wave' m_waved' m_goal' m_goalBy' m_until' post0 := by
  subst e_a1
  subst e_a2
  subst e_m_state
  subst e_m_goes
  subst e_m_waits
  subst e_m_still
  subst e_m_cameFrom
  subst e_m_cameBy
  subst e_m_wave
  subst e_m_waved
  subst e_m_goal
  subst e_m_goalBy
  subst e_m_until
  rw [iv_X5_lastShut] at hv
  rw [vc_X5_lastShut]
  obtain ⟨hi_1, hv⟩ := hv
  refine ⟨z_in (by first | with_reducible rfl | simp only [zl, iz_add, iz_sub, iz_mul, iz_neg]) hi_1 (by decide), ?_⟩
  have e_2 : ((az m_state) ((58 + (iz a1))).toNatClampNeg) = iz (m_state ((58 + a1)).toNat) := z_at (by first | with_reducible rfl | simp only [zl, iz_add, iz_sub, iz_mul, iz_neg]) (by first | with_reducible rfl | simp only [zl, iz_add, iz_sub, iz_mul, iz_neg]) hi_1 (by decide)
  try rw [e_2]
  intro y_4 hy_4
  obtain ⟨x3_3, hx3_3⟩ : ∃ z : Int, z = (m_state ((58 + a1)).toNat) := ⟨_, rfl⟩
  have hv := hv x3_3 hx3_3
  have ey_4 : y_4 = iz x3_3 := by rw [hy_4, hx3_3]; try exact (by first | with_reducible rfl | simp only [zl, iz_add, iz_sub, iz_mul, iz_neg])
  subst ey_4
  obtain ⟨hi_5, hv⟩ := hv
  refine ⟨z_in (by first | with_reducible rfl | simp only [zl, iz_add, iz_sub, iz_mul, iz_neg]) hi_5 (by decide), ?_⟩
  have e_6 : (upd (az m_state) ((58 + (iz a1))).toNatClampNeg (iz a2)) = az (uz m_state ((58 + a1)).toNat a2) := z_upd (by first | with_reducible rfl | simp only [zl, iz_add, iz_sub, iz_mul, iz_neg]) (by first | with_reducible rfl | simp only [zl, iz_add, iz_sub, iz_mul, iz_neg]) (by first | with_reducible rfl | simp only [zl, iz_add, iz_sub, iz_mul, iz_neg]) hi_5 (by decide)
  try rw [e_6]
  refine lift_X5_lastOne (by first | with_reducible rfl | simp only [zl, iz_add, iz_sub, iz_mul, iz_neg]) (by first | with_reducible rfl | simp only [zl, iz_add, iz_sub, iz_mul, iz_neg]) (by first | with_reducible rfl | simp only [zl, iz_add, iz_sub, iz_mul, iz_neg]) (by first | with_reducible rfl | simp only [zl, iz_add, iz_sub, iz_mul, iz_neg]) (by first | with_reducible rfl | simp only [zl, iz_add, iz_sub, iz_mul, iz_neg]) (by first | with_reducible rfl | simp only [zl, iz_add, iz_sub, iz_mul, iz_neg]) (by first | with_reducible rfl | simp only [zl, iz_add, iz_sub, iz_mul, iz_neg]) (by first | with_reducible rfl | simp only [zl, iz_add, iz_sub, iz_mul, iz_neg]) (by first | with_reducible rfl | simp only [zl, iz_add, iz_sub, iz_mul, iz_neg]) (by first | with_reducible rfl | simp only [zl, iz_add, iz_sub, iz_mul, iz_neg]) (by first | with_reducible rfl | simp only [zl, iz_add, iz_sub, iz_mul, iz_neg]) hv (fun r_8 u_7 y_9 y_10 hv er_11 eu_12 => ?_)
  subst er_11; subst eu_12
  try dsimp only
  obtain ⟨hi_13, hv⟩ := hv
  refine ⟨z_in (by first | with_reducible rfl | simp only [zl, iz_add, iz_sub, iz_mul, iz_neg]) hi_13 (by decide), ?_⟩
  have e_14 : (upd (az (uz m_state ((58 + a1)).toNat a2)) ((58 + (iz a1))).toNatClampNeg (iz x3_3)) = az (uz (uz m_state ((58 + a1)).toNat a2) ((58 + a1)).toNat x3_3) := z_upd (by first | with_reducible rfl | simp only [zl, iz_add, iz_sub, iz_mul, iz_neg]) (by first | with_reducible rfl | simp only [zl, iz_add, iz_sub, iz_mul, iz_neg]) (by first | with_reducible rfl | simp only [zl, iz_add, iz_sub, iz_mul, iz_neg]) hi_13 (by decide)
  try rw [e_14]
  exact hp _ _ _ _ hv (by first | with_reducible rfl | simp only [zl, iz_add, iz_sub, iz_mul, iz_neg]) (by first | with_reducible rfl | simp only [zl, iz_add, iz_sub, iz_mul, iz_neg])

def iv_X5_needed_L16 (K : Int → (Nat → Int) → (Nat → Int) → (Nat → Int) → (Nat → Int) → (Nat → Int) → (Nat → Int) → (Nat → Int) → Int → Int → Int → Int → Prop) (b1 : Int) : Nat → Int → Int → (Nat → Int) → (Nat → Int) → (Nat → Int) → (Nat → Int) → (Nat → Int) → (Nat → Int) → (Nat → Int) → Int → Int → Int → Int → Prop
  | 0, _, _, _, _, _, _, _, _, _, _, _, _, _ => False
  | n + 1, v2, v3, m_state, m_goes, m_waits, m_still, m_cameFrom, m_cameBy, m_wave, m_waved, m_goal, m_goalBy, m_until =>
    (iv_X5_many m_state (fun (r_10 : Int) (u_9 : Unit) => ((sm r_10 ∧ sm v3) ∧ ((r_10 ≤ v3 → K v2 m_state m_goes m_waits m_still m_cameFrom m_cameBy m_wave m_waved m_goal m_goalBy m_until) ∧ (¬ r_10 ≤ v3 → (iv_X5_lastShut v3 0 m_state m_goes m_waits m_still m_cameFrom m_cameBy m_wave m_waved m_goal m_goalBy m_until (fun (r_18 : Int) (u_17 : (Nat → Int) × (Nat → Int) × (Nat → Int) × (Nat → Int) × (Nat → Int) × (Nat → Int) × (Nat → Int) × Int × Int × Int × Int) => ((sm r_18 ∧ sm 0) ∧ ((r_18 < 0 → ((0 ≤ v3 ∧ v3 < 30) ∧ ((zn v2 ∧ zn (2 ^ (v3).toNat)) ∧ (∀ x2_29 : Int, x2_29 = (zor v2 (2 ^ (v3).toNat)) → (∀ x3_31 : Int, x3_31 = v3 + 1 → iv_X5_needed_L16 K b1 n x2_29 x3_31 u_17.1 u_17.2.1 u_17.2.2.1 u_17.2.2.2.1 u_17.2.2.2.2.1 u_17.2.2.2.2.2.1 u_17.2.2.2.2.2.2.1 u_17.2.2.2.2.2.2.2.1 u_17.2.2.2.2.2.2.2.2.1 u_17.2.2.2.2.2.2.2.2.2.1 u_17.2.2.2.2.2.2.2.2.2.2))))) ∧ (¬ r_18 < 0 → ((sm r_18 ∧ sm b1) ∧ ((r_18 ≤ b1 → ((zn v2 ∧ zn 0) ∧ (∀ x2_37 : Int, x2_37 = (zor v2 0) → (∀ x3_39 : Int, x3_39 = v3 + 1 → iv_X5_needed_L16 K b1 n x2_37 x3_39 u_17.1 u_17.2.1 u_17.2.2.1 u_17.2.2.2.1 u_17.2.2.2.2.1 u_17.2.2.2.2.2.1 u_17.2.2.2.2.2.2.1 u_17.2.2.2.2.2.2.2.1 u_17.2.2.2.2.2.2.2.2.1 u_17.2.2.2.2.2.2.2.2.2.1 u_17.2.2.2.2.2.2.2.2.2.2)))) ∧ (¬ r_18 ≤ b1 → ((0 ≤ v3 ∧ v3 < 30) ∧ ((zn v2 ∧ zn (2 ^ (v3).toNat)) ∧ (∀ x2_45 : Int, x2_45 = (zor v2 (2 ^ (v3).toNat)) → (∀ x3_47 : Int, x3_47 = v3 + 1 → iv_X5_needed_L16 K b1 n x2_45 x3_47 u_17.1 u_17.2.1 u_17.2.2.1 u_17.2.2.2.1 u_17.2.2.2.2.1 u_17.2.2.2.2.2.1 u_17.2.2.2.2.2.2.1 u_17.2.2.2.2.2.2.2.1 u_17.2.2.2.2.2.2.2.2.1 u_17.2.2.2.2.2.2.2.2.2.1 u_17.2.2.2.2.2.2.2.2.2.2)))))))))))))))))

set_option maxHeartbeats 4000000 in
theorem lift_X5_needed_L16 {K0 : Int32 → (Nat → Int32) → (Nat → Int32) → (Nat → Int32) → (Nat → Int32) → (Nat → Int32) → (Nat → Int32) → (Nat → Int32) → Int32 → Int32 → Int32 → Int32 → Prop} {K : Int → (Nat → Int) → (Nat → Int) → (Nat → Int) → (Nat → Int) → (Nat → Int) → (Nat → Int) → (Nat → Int) → Int → Int → Int → Int → Prop} {b1' : Int32} {b1 : Int} (e_b1 : b1' = iz b1)  (hKx : ∀ (k2' : Int32) (k_m_state' : (Nat → Int32)) (k_m_goes' : (Nat → Int32)) (k_m_waits' : (Nat → Int32)) (k_m_still' : (Nat → Int32)) (k_m_cameFrom' : (Nat → Int32)) (k_m_cameBy' : (Nat → Int32)) (k_m_wave' : (Nat → Int32)) (k_m_waved' : Int32) (k_m_goal' : Int32) (k_m_goalBy' : Int32) (k_m_until' : Int32) (k2 : Int) (k_m_state : (Nat → Int)) (k_m_goes : (Nat → Int)) (k_m_waits : (Nat → Int)) (k_m_still : (Nat → Int)) (k_m_cameFrom : (Nat → Int)) (k_m_cameBy : (Nat → Int)) (k_m_wave : (Nat → Int)) (k_m_waved : Int) (k_m_goal : Int) (k_m_goalBy : Int) (k_m_until : Int), K k2 k_m_state k_m_goes k_m_waits k_m_still k_m_cameFrom k_m_cameBy k_m_wave k_m_waved k_m_goal k_m_goalBy k_m_until → k2' = iz k2 → k_m_state' = az k_m_state → k_m_goes' = az k_m_goes → k_m_waits' = az k_m_waits → k_m_still' = az k_m_still → k_m_cameFrom' = az k_m_cameFrom → k_m_cameBy' = az k_m_cameBy → k_m_wave' = az k_m_wave → k_m_waved' = iz k_m_waved → k_m_goal' = iz k_m_goal → k_m_goalBy' = iz k_m_goalBy → k_m_until' = iz k_m_until →  K0 k2' k_m_state' k_m_goes' k_m_waits' k_m_still' k_m_cameFrom' k_m_cameBy' k_m_wave' k_m_waved' k_m_goal' k_m_goalBy' k_m_until') :
    ∀ (n : Nat) (v2' : Int32) (v3' : Int32) (m_state' : (Nat → Int32)) (m_goes' : (Nat → Int32)) (m_waits' : (Nat → Int32)) (m_still' : (Nat → Int32)) (m_cameFrom' : (Nat → Int32)) (m_cameBy' : (Nat → Int32)) (m_wave' : (Nat → Int32)) (m_waved' : Int32) (m_goal' : Int32) (m_goalBy' : Int32) (m_until' : Int32) (v2 : Int) (v3 : Int) (m_state : (Nat → Int)) (m_goes : (Nat → Int)) (m_waits : (Nat → Int)) (m_still : (Nat → Int)) (m_cameFrom : (Nat → Int)) (m_cameBy : (Nat → Int)) (m_wave : (Nat → Int)) (m_waved : Int) (m_goal : Int) (m_goalBy : Int) (m_until : Int) (e_v2 : v2' = iz v2) (e_v3 : v3' = iz v3) (e_m_state : m_state' = az m_state) (e_m_goes : m_goes' = az m_goes) (e_m_waits : m_waits' = az m_waits) (e_m_still : m_still' = az m_still) (e_m_cameFrom : m_cameFrom' = az m_cameFrom) (e_m_cameBy : m_cameBy' = az m_cameBy) (e_m_wave : m_wave' = az m_wave) (e_m_waved : m_waved' = iz m_waved) (e_m_goal : m_goal' = iz m_goal) (e_m_goalBy : m_goalBy' = iz m_goalBy) (e_m_until : m_until' = iz m_until), iv_X5_needed_L16 K b1 n v2 v3 m_state m_goes m_waits m_still m_cameFrom m_cameBy m_wave m_waved m_goal m_goalBy m_until → vc_X5_needed_L16 K0 b1' n v2' v3' m_state' m_goes' m_waits' m_still' m_cameFrom' m_cameBy' m_wave' m_waved' m_goal' m_goalBy' m_until' := by
  subst e_b1
  intro n
  induction n with
  | zero =>
    intro v2' v3' m_state' m_goes' m_waits' m_still' m_cameFrom' m_cameBy' m_wave' m_waved' m_goal' m_goalBy' m_until' v2 v3 m_state m_goes m_waits m_still m_cameFrom m_cameBy m_wave m_waved m_goal m_goalBy m_until e_v2 e_v3 e_m_state e_m_goes e_m_waits e_m_still e_m_cameFrom e_m_cameBy e_m_wave e_m_waved e_m_goal e_m_goalBy e_m_until hv
    exact False.elim hv
  | succ n ih =>
    intro v2' v3' m_state' m_goes' m_waits' m_still' m_cameFrom' m_cameBy' m_wave' m_waved' m_goal' m_goalBy' m_until' v2 v3 m_state m_goes m_waits m_still m_cameFrom m_cameBy m_wave m_waved m_goal m_goalBy m_until e_v2 e_v3 e_m_state e_m_goes e_m_waits e_m_still e_m_cameFrom e_m_cameBy e_m_wave e_m_waved e_m_goal e_m_goalBy e_m_until hv
    subst e_v2
    subst e_v3
    subst e_m_state
    subst e_m_goes
    subst e_m_waits
    subst e_m_still
    subst e_m_cameFrom
    subst e_m_cameBy
    subst e_m_wave
    subst e_m_waved
    subst e_m_goal
    subst e_m_goalBy
    subst e_m_until
    rw [iv_X5_needed_L16] at hv
    rw [vc_X5_needed_L16]
    refine lift_X5_many (by first | with_reducible rfl | simp only [zl, iz_add, iz_sub, iz_mul, iz_neg]) hv (fun r_10 u_9 y_11 y_12 hv er_13 eu_14 => ?_)
    subst er_13; subst eu_14
    try dsimp only
    obtain ⟨hs_15, hv⟩ := hv
    have q_16 := z_le (x := (iz r_10)) (a := r_10) (by first | with_reducible rfl | simp only [zl, iz_add, iz_sub, iz_mul, iz_neg]) (y := (iz v3)) (b := v3) (by first | with_reducible rfl | simp only [zl, iz_add, iz_sub, iz_mul, iz_neg]) hs_15.1 hs_15.2
    refine ⟨fun c9 => ?_, fun c9 => ?_⟩
    · have hv := hv.1 (q_16.mp c9)
      exact hKx _ _ _ _ _ _ _ _ _ _ _ _ v2 m_state m_goes m_waits m_still m_cameFrom m_cameBy m_wave m_waved m_goal m_goalBy m_until hv (by first | with_reducible rfl | simp only [zl, iz_add, iz_sub, iz_mul, iz_neg]) (by first | with_reducible rfl | simp only [zl, iz_add, iz_sub, iz_mul, iz_neg]) (by first | with_reducible rfl | simp only [zl, iz_add, iz_sub, iz_mul, iz_neg]) (by first | with_reducible rfl | simp only [zl, iz_add, iz_sub, iz_mul, iz_neg]) (by first | with_reducible rfl | simp only [zl, iz_add, iz_sub, iz_mul, iz_neg]) (by first | with_reducible rfl | simp only [zl, iz_add, iz_sub, iz_mul, iz_neg]) (by first | with_reducible rfl | simp only [zl, iz_add, iz_sub, iz_mul, iz_neg]) (by first | with_reducible rfl | simp only [zl, iz_add, iz_sub, iz_mul, iz_neg]) (by first | with_reducible rfl | simp only [zl, iz_add, iz_sub, iz_mul, iz_neg]) (by first | with_reducible rfl | simp only [zl, iz_add, iz_sub, iz_mul, iz_neg]) (by first | with_reducible rfl | simp only [zl, iz_add, iz_sub, iz_mul, iz_neg]) (by first | with_reducible rfl | simp only [zl, iz_add, iz_sub, iz_mul, iz_neg])
    · have hv := hv.2 (fun z9 => c9 (q_16.mpr z9))
      refine lift_X5_lastShut (by first | with_reducible rfl | simp only [zl, iz_add, iz_sub, iz_mul, iz_neg]) (by first | with_reducible rfl | simp only [zl, iz_add, iz_sub, iz_mul, iz_neg]) (by first | with_reducible rfl | simp only [zl, iz_add, iz_sub, iz_mul, iz_neg]) (by first | with_reducible rfl | simp only [zl, iz_add, iz_sub, iz_mul, iz_neg]) (by first | with_reducible rfl | simp only [zl, iz_add, iz_sub, iz_mul, iz_neg]) (by first | with_reducible rfl | simp only [zl, iz_add, iz_sub, iz_mul, iz_neg]) (by first | with_reducible rfl | simp only [zl, iz_add, iz_sub, iz_mul, iz_neg]) (by first | with_reducible rfl | simp only [zl, iz_add, iz_sub, iz_mul, iz_neg]) (by first | with_reducible rfl | simp only [zl, iz_add, iz_sub, iz_mul, iz_neg]) (by first | with_reducible rfl | simp only [zl, iz_add, iz_sub, iz_mul, iz_neg]) (by first | with_reducible rfl | simp only [zl, iz_add, iz_sub, iz_mul, iz_neg]) (by first | with_reducible rfl | simp only [zl, iz_add, iz_sub, iz_mul, iz_neg]) (by first | with_reducible rfl | simp only [zl, iz_add, iz_sub, iz_mul, iz_neg]) hv (fun r_18 u_17 y_19 y_20 hv er_21 eu_22 => ?_)
      subst er_21; subst eu_22
      try dsimp only
      obtain ⟨hs_23, hv⟩ := hv
      have q_24 := z_lt (x := (iz r_18)) (a := r_18) (by first | with_reducible rfl | simp only [zl, iz_add, iz_sub, iz_mul, iz_neg]) (y := 0) (b := 0) (by first | with_reducible rfl | simp only [zl, iz_add, iz_sub, iz_mul, iz_neg]) hs_23.1 hs_23.2
      refine ⟨fun c9 => ?_, fun c9 => ?_⟩
      · have hv := hv.1 (q_24.mp c9)
        obtain ⟨hc_25, hv⟩ := hv
        have e_26 : (1 <<< ((iz v3) &&& 31)) = iz (2 ^ (v3).toNat) := z_shl (by first | with_reducible rfl | simp only [zl, iz_add, iz_sub, iz_mul, iz_neg]) hc_25
        try rw [e_26]
        obtain ⟨hc_27, hv⟩ := hv
        have e_28 : ((iz v2) ||| (iz (2 ^ (v3).toNat))) = iz (zor v2 (2 ^ (v3).toNat)) := z_or (by first | with_reducible rfl | simp only [zl, iz_add, iz_sub, iz_mul, iz_neg]) (by first | with_reducible rfl | simp only [zl, iz_add, iz_sub, iz_mul, iz_neg]) hc_27.1 hc_27.2
        try rw [e_28]
        intro y_30 hy_30
        obtain ⟨x2_29, hx2_29⟩ : ∃ z : Int, z = (zor v2 (2 ^ (v3).toNat)) := ⟨_, rfl⟩
        have hv := hv x2_29 hx2_29
        have ey_30 : y_30 = iz x2_29 := by rw [hy_30, hx2_29]; try exact (by first | with_reducible rfl | simp only [zl, iz_add, iz_sub, iz_mul, iz_neg])
        subst ey_30
        intro y_32 hy_32
        obtain ⟨x3_31, hx3_31⟩ : ∃ z : Int, z = v3 + 1 := ⟨_, rfl⟩
        have hv := hv x3_31 hx3_31
        have ey_32 : y_32 = iz x3_31 := by rw [hy_32, hx3_31]; try exact (by first | with_reducible rfl | simp only [zl, iz_add, iz_sub, iz_mul, iz_neg])
        subst ey_32
        exact ih _ _ _ _ _ _ _ _ _ _ _ _ _ x2_29 x3_31 u_17.1 u_17.2.1 u_17.2.2.1 u_17.2.2.2.1 u_17.2.2.2.2.1 u_17.2.2.2.2.2.1 u_17.2.2.2.2.2.2.1 u_17.2.2.2.2.2.2.2.1 u_17.2.2.2.2.2.2.2.2.1 u_17.2.2.2.2.2.2.2.2.2.1 u_17.2.2.2.2.2.2.2.2.2.2 (by first | with_reducible rfl | simp only [zl, iz_add, iz_sub, iz_mul, iz_neg]) (by first | with_reducible rfl | simp only [zl, iz_add, iz_sub, iz_mul, iz_neg]) (by first | with_reducible rfl | simp only [zl, iz_add, iz_sub, iz_mul, iz_neg]) (by first | with_reducible rfl | simp only [zl, iz_add, iz_sub, iz_mul, iz_neg]) (by first | with_reducible rfl | simp only [zl, iz_add, iz_sub, iz_mul, iz_neg]) (by first | with_reducible rfl | simp only [zl, iz_add, iz_sub, iz_mul, iz_neg]) (by first | with_reducible rfl | simp only [zl, iz_add, iz_sub, iz_mul, iz_neg]) (by first | with_reducible rfl | simp only [zl, iz_add, iz_sub, iz_mul, iz_neg]) (by first | with_reducible rfl | simp only [zl, iz_add, iz_sub, iz_mul, iz_neg]) (by first | with_reducible rfl | simp only [zl, iz_add, iz_sub, iz_mul, iz_neg]) (by first | with_reducible rfl | simp only [zl, iz_add, iz_sub, iz_mul, iz_neg]) (by first | with_reducible rfl | simp only [zl, iz_add, iz_sub, iz_mul, iz_neg]) (by first | with_reducible rfl | simp only [zl, iz_add, iz_sub, iz_mul, iz_neg]) hv
      · have hv := hv.2 (fun z9 => c9 (q_24.mpr z9))
        obtain ⟨hs_33, hv⟩ := hv
        have q_34 := z_le (x := (iz r_18)) (a := r_18) (by first | with_reducible rfl | simp only [zl, iz_add, iz_sub, iz_mul, iz_neg]) (y := (iz b1)) (b := b1) (by first | with_reducible rfl | simp only [zl, iz_add, iz_sub, iz_mul, iz_neg]) hs_33.1 hs_33.2
        refine ⟨fun c9 => ?_, fun c9 => ?_⟩
        · have hv := hv.1 (q_34.mp c9)
          obtain ⟨hc_35, hv⟩ := hv
          have e_36 : ((iz v2) ||| 0) = iz (zor v2 0) := z_or (by first | with_reducible rfl | simp only [zl, iz_add, iz_sub, iz_mul, iz_neg]) (by first | with_reducible rfl | simp only [zl, iz_add, iz_sub, iz_mul, iz_neg]) hc_35.1 hc_35.2
          try rw [e_36]
          intro y_38 hy_38
          obtain ⟨x2_37, hx2_37⟩ : ∃ z : Int, z = (zor v2 0) := ⟨_, rfl⟩
          have hv := hv x2_37 hx2_37
          have ey_38 : y_38 = iz x2_37 := by rw [hy_38, hx2_37]; try exact (by first | with_reducible rfl | simp only [zl, iz_add, iz_sub, iz_mul, iz_neg])
          subst ey_38
          intro y_40 hy_40
          obtain ⟨x3_39, hx3_39⟩ : ∃ z : Int, z = v3 + 1 := ⟨_, rfl⟩
          have hv := hv x3_39 hx3_39
          have ey_40 : y_40 = iz x3_39 := by rw [hy_40, hx3_39]; try exact (by first | with_reducible rfl | simp only [zl, iz_add, iz_sub, iz_mul, iz_neg])
          subst ey_40
          exact ih _ _ _ _ _ _ _ _ _ _ _ _ _ x2_37 x3_39 u_17.1 u_17.2.1 u_17.2.2.1 u_17.2.2.2.1 u_17.2.2.2.2.1 u_17.2.2.2.2.2.1 u_17.2.2.2.2.2.2.1 u_17.2.2.2.2.2.2.2.1 u_17.2.2.2.2.2.2.2.2.1 u_17.2.2.2.2.2.2.2.2.2.1 u_17.2.2.2.2.2.2.2.2.2.2 (by first | with_reducible rfl | simp only [zl, iz_add, iz_sub, iz_mul, iz_neg]) (by first | with_reducible rfl | simp only [zl, iz_add, iz_sub, iz_mul, iz_neg]) (by first | with_reducible rfl | simp only [zl, iz_add, iz_sub, iz_mul, iz_neg]) (by first | with_reducible rfl | simp only [zl, iz_add, iz_sub, iz_mul, iz_neg]) (by first | with_reducible rfl | simp only [zl, iz_add, iz_sub, iz_mul, iz_neg]) (by first | with_reducible rfl | simp only [zl, iz_add, iz_sub, iz_mul, iz_neg]) (by first | with_reducible rfl | simp only [zl, iz_add, iz_sub, iz_mul, iz_neg]) (by first | with_reducible rfl | simp only [zl, iz_add, iz_sub, iz_mul, iz_neg]) (by first | with_reducible rfl | simp only [zl, iz_add, iz_sub, iz_mul, iz_neg]) (by first | with_reducible rfl | simp only [zl, iz_add, iz_sub, iz_mul, iz_neg]) (by first | with_reducible rfl | simp only [zl, iz_add, iz_sub, iz_mul, iz_neg]) (by first | with_reducible rfl | simp only [zl, iz_add, iz_sub, iz_mul, iz_neg]) (by first | with_reducible rfl | simp only [zl, iz_add, iz_sub, iz_mul, iz_neg]) hv
        · have hv := hv.2 (fun z9 => c9 (q_34.mpr z9))
          obtain ⟨hc_41, hv⟩ := hv
          have e_42 : (1 <<< ((iz v3) &&& 31)) = iz (2 ^ (v3).toNat) := z_shl (by first | with_reducible rfl | simp only [zl, iz_add, iz_sub, iz_mul, iz_neg]) hc_41
          try rw [e_42]
          obtain ⟨hc_43, hv⟩ := hv
          have e_44 : ((iz v2) ||| (iz (2 ^ (v3).toNat))) = iz (zor v2 (2 ^ (v3).toNat)) := z_or (by first | with_reducible rfl | simp only [zl, iz_add, iz_sub, iz_mul, iz_neg]) (by first | with_reducible rfl | simp only [zl, iz_add, iz_sub, iz_mul, iz_neg]) hc_43.1 hc_43.2
          try rw [e_44]
          intro y_46 hy_46
          obtain ⟨x2_45, hx2_45⟩ : ∃ z : Int, z = (zor v2 (2 ^ (v3).toNat)) := ⟨_, rfl⟩
          have hv := hv x2_45 hx2_45
          have ey_46 : y_46 = iz x2_45 := by rw [hy_46, hx2_45]; try exact (by first | with_reducible rfl | simp only [zl, iz_add, iz_sub, iz_mul, iz_neg])
          subst ey_46
          intro y_48 hy_48
          obtain ⟨x3_47, hx3_47⟩ : ∃ z : Int, z = v3 + 1 := ⟨_, rfl⟩
          have hv := hv x3_47 hx3_47
          have ey_48 : y_48 = iz x3_47 := by rw [hy_48, hx3_47]; try exact (by first | with_reducible rfl | simp only [zl, iz_add, iz_sub, iz_mul, iz_neg])
          subst ey_48
          exact ih _ _ _ _ _ _ _ _ _ _ _ _ _ x2_45 x3_47 u_17.1 u_17.2.1 u_17.2.2.1 u_17.2.2.2.1 u_17.2.2.2.2.1 u_17.2.2.2.2.2.1 u_17.2.2.2.2.2.2.1 u_17.2.2.2.2.2.2.2.1 u_17.2.2.2.2.2.2.2.2.1 u_17.2.2.2.2.2.2.2.2.2.1 u_17.2.2.2.2.2.2.2.2.2.2 (by first | with_reducible rfl | simp only [zl, iz_add, iz_sub, iz_mul, iz_neg]) (by first | with_reducible rfl | simp only [zl, iz_add, iz_sub, iz_mul, iz_neg]) (by first | with_reducible rfl | simp only [zl, iz_add, iz_sub, iz_mul, iz_neg]) (by first | with_reducible rfl | simp only [zl, iz_add, iz_sub, iz_mul, iz_neg]) (by first | with_reducible rfl | simp only [zl, iz_add, iz_sub, iz_mul, iz_neg]) (by first | with_reducible rfl | simp only [zl, iz_add, iz_sub, iz_mul, iz_neg]) (by first | with_reducible rfl | simp only [zl, iz_add, iz_sub, iz_mul, iz_neg]) (by first | with_reducible rfl | simp only [zl, iz_add, iz_sub, iz_mul, iz_neg]) (by first | with_reducible rfl | simp only [zl, iz_add, iz_sub, iz_mul, iz_neg]) (by first | with_reducible rfl | simp only [zl, iz_add, iz_sub, iz_mul, iz_neg]) (by first | with_reducible rfl | simp only [zl, iz_add, iz_sub, iz_mul, iz_neg]) (by first | with_reducible rfl | simp only [zl, iz_add, iz_sub, iz_mul, iz_neg]) (by first | with_reducible rfl | simp only [zl, iz_add, iz_sub, iz_mul, iz_neg]) hv

def iv_X5_needed (m_state : (Nat → Int)) (m_goes : (Nat → Int)) (m_waits : (Nat → Int)) (m_still : (Nat → Int)) (m_cameFrom : (Nat → Int)) (m_cameBy : (Nat → Int)) (m_wave : (Nat → Int)) (m_waved : Int) (m_goal : Int) (m_goalBy : Int) (m_until : Int) (post : Int → ((Nat → Int) × (Nat → Int) × (Nat → Int) × (Nat → Int) × (Nat → Int) × (Nat → Int) × (Nat → Int) × Int × Int × Int × Int) → Prop) : Prop :=
  (iv_X5_lastOne m_state m_goes m_waits m_still m_cameFrom m_cameBy m_wave m_waved m_goal m_goalBy m_until (fun (r_2 : Int) (u_1 : (Nat → Int) × (Nat → Int) × (Nat → Int) × (Nat → Int) × (Nat → Int) × (Nat → Int) × Int × Int × Int × Int) => ((sm 0 ∧ sm r_2) ∧ ((0 ≤ r_2 → (∃ n_61, iv_X5_needed_L16 (fun k2_49 m_state_50 m_goes_51 m_waits_52 m_still_53 m_cameFrom_54 m_cameBy_55 m_wave_56 m_waved_57 m_goal_58 m_goalBy_59 m_until_60 => post k2_49 (m_state_50, m_goes_51, m_waits_52, m_still_53, m_cameFrom_54, m_cameBy_55, m_wave_56, m_waved_57, m_goal_58, m_goalBy_59, m_until_60))  r_2 n_61 0 0 m_state u_1.1 u_1.2.1 u_1.2.2.1 u_1.2.2.2.1 u_1.2.2.2.2.1 u_1.2.2.2.2.2.1 u_1.2.2.2.2.2.2.1 u_1.2.2.2.2.2.2.2.1 u_1.2.2.2.2.2.2.2.2.1 u_1.2.2.2.2.2.2.2.2.2)) ∧ (¬ 0 ≤ r_2 → post (-6) (m_state, u_1.1, u_1.2.1, u_1.2.2.1, u_1.2.2.2.1, u_1.2.2.2.2.1, u_1.2.2.2.2.2.1, u_1.2.2.2.2.2.2.1, u_1.2.2.2.2.2.2.2.1, u_1.2.2.2.2.2.2.2.2.1, u_1.2.2.2.2.2.2.2.2.2))))))

set_option maxHeartbeats 4000000 in
theorem lift_X5_needed {m_state' : (Nat → Int32)} {m_state : (Nat → Int)} {m_goes' : (Nat → Int32)} {m_goes : (Nat → Int)} {m_waits' : (Nat → Int32)} {m_waits : (Nat → Int)} {m_still' : (Nat → Int32)} {m_still : (Nat → Int)} {m_cameFrom' : (Nat → Int32)} {m_cameFrom : (Nat → Int)} {m_cameBy' : (Nat → Int32)} {m_cameBy : (Nat → Int)} {m_wave' : (Nat → Int32)} {m_wave : (Nat → Int)} {m_waved' : Int32} {m_waved : Int} {m_goal' : Int32} {m_goal : Int} {m_goalBy' : Int32} {m_goalBy : Int} {m_until' : Int32} {m_until : Int} (e_m_state : m_state' = az m_state) (e_m_goes : m_goes' = az m_goes) (e_m_waits : m_waits' = az m_waits) (e_m_still : m_still' = az m_still) (e_m_cameFrom : m_cameFrom' = az m_cameFrom) (e_m_cameBy : m_cameBy' = az m_cameBy) (e_m_wave : m_wave' = az m_wave) (e_m_waved : m_waved' = iz m_waved) (e_m_goal : m_goal' = iz m_goal) (e_m_goalBy : m_goalBy' = iz m_goalBy) (e_m_until : m_until' = iz m_until) {post0 : Int32 → ((Nat → Int32) × (Nat → Int32) × (Nat → Int32) × (Nat → Int32) × (Nat → Int32) × (Nat → Int32) × (Nat → Int32) × Int32 × Int32 × Int32 × Int32) → Prop} {post : Int → ((Nat → Int) × (Nat → Int) × (Nat → Int) × (Nat → Int) × (Nat → Int) × (Nat → Int) × (Nat → Int) × Int × Int × Int × Int) → Prop} (hv : iv_X5_needed m_state m_goes m_waits m_still m_cameFrom m_cameBy m_wave m_waved m_goal m_goalBy m_until post) (hp : ∀ (r : Int) (u : (Nat → Int) × (Nat → Int) × (Nat → Int) × (Nat → Int) × (Nat → Int) × (Nat → Int) × (Nat → Int) × Int × Int × Int × Int) (x : Int32) (y : (Nat → Int32) × (Nat → Int32) × (Nat → Int32) × (Nat → Int32) × (Nat → Int32) × (Nat → Int32) × (Nat → Int32) × Int32 × Int32 × Int32 × Int32), post r u → x = iz r → y = (az u.1, az u.2.1, az u.2.2.1, az u.2.2.2.1, az u.2.2.2.2.1, az u.2.2.2.2.2.1, az u.2.2.2.2.2.2.1, iz u.2.2.2.2.2.2.2.1, iz u.2.2.2.2.2.2.2.2.1, iz u.2.2.2.2.2.2.2.2.2.1, iz u.2.2.2.2.2.2.2.2.2.2) → post0 x y) : vc_X5_needed m_state' m_goes' m_waits' m_still' m_cameFrom' m_cameBy' m_wave' m_waved' m_goal' m_goalBy' m_until' post0 := by
  subst e_m_state
  subst e_m_goes
  subst e_m_waits
  subst e_m_still
  subst e_m_cameFrom
  subst e_m_cameBy
  subst e_m_wave
  subst e_m_waved
  subst e_m_goal
  subst e_m_goalBy
  subst e_m_until
  rw [iv_X5_needed] at hv
  rw [vc_X5_needed]
  refine lift_X5_lastOne (by first | with_reducible rfl | simp only [zl, iz_add, iz_sub, iz_mul, iz_neg]) (by first | with_reducible rfl | simp only [zl, iz_add, iz_sub, iz_mul, iz_neg]) (by first | with_reducible rfl | simp only [zl, iz_add, iz_sub, iz_mul, iz_neg]) (by first | with_reducible rfl | simp only [zl, iz_add, iz_sub, iz_mul, iz_neg]) (by first | with_reducible rfl | simp only [zl, iz_add, iz_sub, iz_mul, iz_neg]) (by first | with_reducible rfl | simp only [zl, iz_add, iz_sub, iz_mul, iz_neg]) (by first | with_reducible rfl | simp only [zl, iz_add, iz_sub, iz_mul, iz_neg]) (by first | with_reducible rfl | simp only [zl, iz_add, iz_sub, iz_mul, iz_neg]) (by first | with_reducible rfl | simp only [zl, iz_add, iz_sub, iz_mul, iz_neg]) (by first | with_reducible rfl | simp only [zl, iz_add, iz_sub, iz_mul, iz_neg]) (by first | with_reducible rfl | simp only [zl, iz_add, iz_sub, iz_mul, iz_neg]) hv (fun r_2 u_1 y_3 y_4 hv er_5 eu_6 => ?_)
  subst er_5; subst eu_6
  try dsimp only
  obtain ⟨hs_7, hv⟩ := hv
  have q_8 := z_le (x := 0) (a := 0) (by first | with_reducible rfl | simp only [zl, iz_add, iz_sub, iz_mul, iz_neg]) (y := (iz r_2)) (b := r_2) (by first | with_reducible rfl | simp only [zl, iz_add, iz_sub, iz_mul, iz_neg]) hs_7.1 hs_7.2
  refine ⟨fun c9 => ?_, fun c9 => ?_⟩
  · have hv := hv.1 (q_8.mp c9)
    obtain ⟨n_61, hv⟩ := hv
    refine ⟨n_61, lift_X5_needed_L16 (by first | with_reducible rfl | simp only [zl, iz_add, iz_sub, iz_mul, iz_neg]) (fun y_62 y_63 y_64 y_65 y_66 y_67 y_68 y_69 y_70 y_71 y_72 y_73 k2_49 m_state_50 m_goes_51 m_waits_52 m_still_53 m_cameFrom_54 m_cameBy_55 m_wave_56 m_waved_57 m_goal_58 m_goalBy_59 m_until_60 hv ey_74 ey_75 ey_76 ey_77 ey_78 ey_79 ey_80 ey_81 ey_82 ey_83 ey_84 ey_85 => ?_)  n_61 _ _ _ _ _ _ _ _ _ _ _ _ _ 0 0 m_state u_1.1 u_1.2.1 u_1.2.2.1 u_1.2.2.2.1 u_1.2.2.2.2.1 u_1.2.2.2.2.2.1 u_1.2.2.2.2.2.2.1 u_1.2.2.2.2.2.2.2.1 u_1.2.2.2.2.2.2.2.2.1 u_1.2.2.2.2.2.2.2.2.2 (by first | with_reducible rfl | simp only [zl, iz_add, iz_sub, iz_mul, iz_neg]) (by first | with_reducible rfl | simp only [zl, iz_add, iz_sub, iz_mul, iz_neg]) (by first | with_reducible rfl | simp only [zl, iz_add, iz_sub, iz_mul, iz_neg]) (by first | with_reducible rfl | simp only [zl, iz_add, iz_sub, iz_mul, iz_neg]) (by first | with_reducible rfl | simp only [zl, iz_add, iz_sub, iz_mul, iz_neg]) (by first | with_reducible rfl | simp only [zl, iz_add, iz_sub, iz_mul, iz_neg]) (by first | with_reducible rfl | simp only [zl, iz_add, iz_sub, iz_mul, iz_neg]) (by first | with_reducible rfl | simp only [zl, iz_add, iz_sub, iz_mul, iz_neg]) (by first | with_reducible rfl | simp only [zl, iz_add, iz_sub, iz_mul, iz_neg]) (by first | with_reducible rfl | simp only [zl, iz_add, iz_sub, iz_mul, iz_neg]) (by first | with_reducible rfl | simp only [zl, iz_add, iz_sub, iz_mul, iz_neg]) (by first | with_reducible rfl | simp only [zl, iz_add, iz_sub, iz_mul, iz_neg]) (by first | with_reducible rfl | simp only [zl, iz_add, iz_sub, iz_mul, iz_neg]) hv⟩
    subst ey_74
    subst ey_75
    subst ey_76
    subst ey_77
    subst ey_78
    subst ey_79
    subst ey_80
    subst ey_81
    subst ey_82
    subst ey_83
    subst ey_84
    subst ey_85
    exact hp _ _ _ _ hv (by first | with_reducible rfl | simp only [zl, iz_add, iz_sub, iz_mul, iz_neg]) (by first | with_reducible rfl | simp only [zl, iz_add, iz_sub, iz_mul, iz_neg])
  · have hv := hv.2 (fun z9 => c9 (q_8.mpr z9))
    exact hp _ _ _ _ hv (by first | with_reducible rfl | simp only [zl, iz_add, iz_sub, iz_mul, iz_neg]) (by first | with_reducible rfl | simp only [zl, iz_add, iz_sub, iz_mul, iz_neg])

def iv_X5_door_L28 (K : Int → (Nat → Int) → (Nat → Int) → (Nat → Int) → (Nat → Int) → (Nat → Int) → (Nat → Int) → (Nat → Int) → Int → Int → Int → Int → Prop) (b1 : Int) (b2 : Int) : Nat → Int → Int → (Nat → Int) → (Nat → Int) → (Nat → Int) → (Nat → Int) → (Nat → Int) → (Nat → Int) → (Nat → Int) → Int → Int → Int → Int → Prop
  | 0, _, _, _, _, _, _, _, _, _, _, _, _, _ => False
  | n + 1, v3, v4, m_state, m_goes, m_waits, m_still, m_cameFrom, m_cameBy, m_wave, m_waved, m_goal, m_goalBy, m_until =>
    ((sm (v4 - v3) ∧ sm 1) ∧ (((v4 - v3) ≤ 1 → K v4 m_state m_goes m_waits m_still m_cameFrom m_cameBy m_wave m_waved m_goal m_goalBy m_until) ∧ (¬ (v4 - v3) ≤ 1 → ((zn (v4 + v3)) ∧ (∀ x5_21 : Int, x5_21 = ((v4 + v3) / 2) → (iv_X5_lastShut b1 x5_21 m_state m_goes m_waits m_still m_cameFrom m_cameBy m_wave m_waved m_goal m_goalBy m_until (fun (r_24 : Int) (u_23 : (Nat → Int) × (Nat → Int) × (Nat → Int) × (Nat → Int) × (Nat → Int) × (Nat → Int) × (Nat → Int) × Int × Int × Int × Int) => ((sm r_24 ∧ sm 0) ∧ ((r_24 < 0 → iv_X5_door_L28 K b1 b2 n x5_21 v4 u_23.1 u_23.2.1 u_23.2.2.1 u_23.2.2.2.1 u_23.2.2.2.2.1 u_23.2.2.2.2.2.1 u_23.2.2.2.2.2.2.1 u_23.2.2.2.2.2.2.2.1 u_23.2.2.2.2.2.2.2.2.1 u_23.2.2.2.2.2.2.2.2.2.1 u_23.2.2.2.2.2.2.2.2.2.2) ∧ (¬ r_24 < 0 → ((sm r_24 ∧ sm b2) ∧ ((r_24 ≤ b2 → iv_X5_door_L28 K b1 b2 n v3 x5_21 u_23.1 u_23.2.1 u_23.2.2.1 u_23.2.2.2.1 u_23.2.2.2.2.1 u_23.2.2.2.2.2.1 u_23.2.2.2.2.2.2.1 u_23.2.2.2.2.2.2.2.1 u_23.2.2.2.2.2.2.2.2.1 u_23.2.2.2.2.2.2.2.2.2.1 u_23.2.2.2.2.2.2.2.2.2.2) ∧ (¬ r_24 ≤ b2 → iv_X5_door_L28 K b1 b2 n x5_21 v4 u_23.1 u_23.2.1 u_23.2.2.1 u_23.2.2.2.1 u_23.2.2.2.2.1 u_23.2.2.2.2.2.1 u_23.2.2.2.2.2.2.1 u_23.2.2.2.2.2.2.2.1 u_23.2.2.2.2.2.2.2.2.1 u_23.2.2.2.2.2.2.2.2.2.1 u_23.2.2.2.2.2.2.2.2.2.2)))))))))))))

set_option maxHeartbeats 4000000 in
theorem lift_X5_door_L28 {K0 : Int32 → (Nat → Int32) → (Nat → Int32) → (Nat → Int32) → (Nat → Int32) → (Nat → Int32) → (Nat → Int32) → (Nat → Int32) → Int32 → Int32 → Int32 → Int32 → Prop} {K : Int → (Nat → Int) → (Nat → Int) → (Nat → Int) → (Nat → Int) → (Nat → Int) → (Nat → Int) → (Nat → Int) → Int → Int → Int → Int → Prop} {b1' : Int32} {b1 : Int} {b2' : Int32} {b2 : Int} (e_b1 : b1' = iz b1) (e_b2 : b2' = iz b2)  (hKx : ∀ (k4' : Int32) (k_m_state' : (Nat → Int32)) (k_m_goes' : (Nat → Int32)) (k_m_waits' : (Nat → Int32)) (k_m_still' : (Nat → Int32)) (k_m_cameFrom' : (Nat → Int32)) (k_m_cameBy' : (Nat → Int32)) (k_m_wave' : (Nat → Int32)) (k_m_waved' : Int32) (k_m_goal' : Int32) (k_m_goalBy' : Int32) (k_m_until' : Int32) (k4 : Int) (k_m_state : (Nat → Int)) (k_m_goes : (Nat → Int)) (k_m_waits : (Nat → Int)) (k_m_still : (Nat → Int)) (k_m_cameFrom : (Nat → Int)) (k_m_cameBy : (Nat → Int)) (k_m_wave : (Nat → Int)) (k_m_waved : Int) (k_m_goal : Int) (k_m_goalBy : Int) (k_m_until : Int), K k4 k_m_state k_m_goes k_m_waits k_m_still k_m_cameFrom k_m_cameBy k_m_wave k_m_waved k_m_goal k_m_goalBy k_m_until → k4' = iz k4 → k_m_state' = az k_m_state → k_m_goes' = az k_m_goes → k_m_waits' = az k_m_waits → k_m_still' = az k_m_still → k_m_cameFrom' = az k_m_cameFrom → k_m_cameBy' = az k_m_cameBy → k_m_wave' = az k_m_wave → k_m_waved' = iz k_m_waved → k_m_goal' = iz k_m_goal → k_m_goalBy' = iz k_m_goalBy → k_m_until' = iz k_m_until →  K0 k4' k_m_state' k_m_goes' k_m_waits' k_m_still' k_m_cameFrom' k_m_cameBy' k_m_wave' k_m_waved' k_m_goal' k_m_goalBy' k_m_until') :
    ∀ (n : Nat) (v3' : Int32) (v4' : Int32) (m_state' : (Nat → Int32)) (m_goes' : (Nat → Int32)) (m_waits' : (Nat → Int32)) (m_still' : (Nat → Int32)) (m_cameFrom' : (Nat → Int32)) (m_cameBy' : (Nat → Int32)) (m_wave' : (Nat → Int32)) (m_waved' : Int32) (m_goal' : Int32) (m_goalBy' : Int32) (m_until' : Int32) (v3 : Int) (v4 : Int) (m_state : (Nat → Int)) (m_goes : (Nat → Int)) (m_waits : (Nat → Int)) (m_still : (Nat → Int)) (m_cameFrom : (Nat → Int)) (m_cameBy : (Nat → Int)) (m_wave : (Nat → Int)) (m_waved : Int) (m_goal : Int) (m_goalBy : Int) (m_until : Int) (e_v3 : v3' = iz v3) (e_v4 : v4' = iz v4) (e_m_state : m_state' = az m_state) (e_m_goes : m_goes' = az m_goes) (e_m_waits : m_waits' = az m_waits) (e_m_still : m_still' = az m_still) (e_m_cameFrom : m_cameFrom' = az m_cameFrom) (e_m_cameBy : m_cameBy' = az m_cameBy) (e_m_wave : m_wave' = az m_wave) (e_m_waved : m_waved' = iz m_waved) (e_m_goal : m_goal' = iz m_goal) (e_m_goalBy : m_goalBy' = iz m_goalBy) (e_m_until : m_until' = iz m_until), iv_X5_door_L28 K b1 b2 n v3 v4 m_state m_goes m_waits m_still m_cameFrom m_cameBy m_wave m_waved m_goal m_goalBy m_until → vc_X5_door_L28 K0 b1' b2' n v3' v4' m_state' m_goes' m_waits' m_still' m_cameFrom' m_cameBy' m_wave' m_waved' m_goal' m_goalBy' m_until' := by
  subst e_b1
  subst e_b2
  intro n
  induction n with
  | zero =>
    intro v3' v4' m_state' m_goes' m_waits' m_still' m_cameFrom' m_cameBy' m_wave' m_waved' m_goal' m_goalBy' m_until' v3 v4 m_state m_goes m_waits m_still m_cameFrom m_cameBy m_wave m_waved m_goal m_goalBy m_until e_v3 e_v4 e_m_state e_m_goes e_m_waits e_m_still e_m_cameFrom e_m_cameBy e_m_wave e_m_waved e_m_goal e_m_goalBy e_m_until hv
    exact False.elim hv
  | succ n ih =>
    intro v3' v4' m_state' m_goes' m_waits' m_still' m_cameFrom' m_cameBy' m_wave' m_waved' m_goal' m_goalBy' m_until' v3 v4 m_state m_goes m_waits m_still m_cameFrom m_cameBy m_wave m_waved m_goal m_goalBy m_until e_v3 e_v4 e_m_state e_m_goes e_m_waits e_m_still e_m_cameFrom e_m_cameBy e_m_wave e_m_waved e_m_goal e_m_goalBy e_m_until hv
    subst e_v3
    subst e_v4
    subst e_m_state
    subst e_m_goes
    subst e_m_waits
    subst e_m_still
    subst e_m_cameFrom
    subst e_m_cameBy
    subst e_m_wave
    subst e_m_waved
    subst e_m_goal
    subst e_m_goalBy
    subst e_m_until
    rw [iv_X5_door_L28] at hv
    rw [vc_X5_door_L28]
    obtain ⟨hs_17, hv⟩ := hv
    have q_18 := z_le (x := ((iz v4) - (iz v3))) (a := (v4 - v3)) (by first | with_reducible rfl | simp only [zl, iz_add, iz_sub, iz_mul, iz_neg]) (y := 1) (b := 1) (by first | with_reducible rfl | simp only [zl, iz_add, iz_sub, iz_mul, iz_neg]) hs_17.1 hs_17.2
    refine ⟨fun c9 => ?_, fun c9 => ?_⟩
    · have hv := hv.1 (q_18.mp c9)
      exact hKx _ _ _ _ _ _ _ _ _ _ _ _ v4 m_state m_goes m_waits m_still m_cameFrom m_cameBy m_wave m_waved m_goal m_goalBy m_until hv (by first | with_reducible rfl | simp only [zl, iz_add, iz_sub, iz_mul, iz_neg]) (by first | with_reducible rfl | simp only [zl, iz_add, iz_sub, iz_mul, iz_neg]) (by first | with_reducible rfl | simp only [zl, iz_add, iz_sub, iz_mul, iz_neg]) (by first | with_reducible rfl | simp only [zl, iz_add, iz_sub, iz_mul, iz_neg]) (by first | with_reducible rfl | simp only [zl, iz_add, iz_sub, iz_mul, iz_neg]) (by first | with_reducible rfl | simp only [zl, iz_add, iz_sub, iz_mul, iz_neg]) (by first | with_reducible rfl | simp only [zl, iz_add, iz_sub, iz_mul, iz_neg]) (by first | with_reducible rfl | simp only [zl, iz_add, iz_sub, iz_mul, iz_neg]) (by first | with_reducible rfl | simp only [zl, iz_add, iz_sub, iz_mul, iz_neg]) (by first | with_reducible rfl | simp only [zl, iz_add, iz_sub, iz_mul, iz_neg]) (by first | with_reducible rfl | simp only [zl, iz_add, iz_sub, iz_mul, iz_neg]) (by first | with_reducible rfl | simp only [zl, iz_add, iz_sub, iz_mul, iz_neg])
    · have hv := hv.2 (fun z9 => c9 (q_18.mpr z9))
      obtain ⟨hc_19, hv⟩ := hv
      have e_20 : (((iz v4) + (iz v3)) / 2) = iz ((v4 + v3) / 2) := z_div (by first | with_reducible rfl | simp only [zl, iz_add, iz_sub, iz_mul, iz_neg]) hc_19 (by decide) (by decide)
      try rw [e_20]
      intro y_22 hy_22
      obtain ⟨x5_21, hx5_21⟩ : ∃ z : Int, z = ((v4 + v3) / 2) := ⟨_, rfl⟩
      have hv := hv x5_21 hx5_21
      have ey_22 : y_22 = iz x5_21 := by rw [hy_22, hx5_21]; try exact (by first | with_reducible rfl | simp only [zl, iz_add, iz_sub, iz_mul, iz_neg])
      subst ey_22
      refine lift_X5_lastShut (by first | with_reducible rfl | simp only [zl, iz_add, iz_sub, iz_mul, iz_neg]) (by first | with_reducible rfl | simp only [zl, iz_add, iz_sub, iz_mul, iz_neg]) (by first | with_reducible rfl | simp only [zl, iz_add, iz_sub, iz_mul, iz_neg]) (by first | with_reducible rfl | simp only [zl, iz_add, iz_sub, iz_mul, iz_neg]) (by first | with_reducible rfl | simp only [zl, iz_add, iz_sub, iz_mul, iz_neg]) (by first | with_reducible rfl | simp only [zl, iz_add, iz_sub, iz_mul, iz_neg]) (by first | with_reducible rfl | simp only [zl, iz_add, iz_sub, iz_mul, iz_neg]) (by first | with_reducible rfl | simp only [zl, iz_add, iz_sub, iz_mul, iz_neg]) (by first | with_reducible rfl | simp only [zl, iz_add, iz_sub, iz_mul, iz_neg]) (by first | with_reducible rfl | simp only [zl, iz_add, iz_sub, iz_mul, iz_neg]) (by first | with_reducible rfl | simp only [zl, iz_add, iz_sub, iz_mul, iz_neg]) (by first | with_reducible rfl | simp only [zl, iz_add, iz_sub, iz_mul, iz_neg]) (by first | with_reducible rfl | simp only [zl, iz_add, iz_sub, iz_mul, iz_neg]) hv (fun r_24 u_23 y_25 y_26 hv er_27 eu_28 => ?_)
      subst er_27; subst eu_28
      try dsimp only
      obtain ⟨hs_29, hv⟩ := hv
      have q_30 := z_lt (x := (iz r_24)) (a := r_24) (by first | with_reducible rfl | simp only [zl, iz_add, iz_sub, iz_mul, iz_neg]) (y := 0) (b := 0) (by first | with_reducible rfl | simp only [zl, iz_add, iz_sub, iz_mul, iz_neg]) hs_29.1 hs_29.2
      refine ⟨fun c9 => ?_, fun c9 => ?_⟩
      · have hv := hv.1 (q_30.mp c9)
        exact ih _ _ _ _ _ _ _ _ _ _ _ _ _ x5_21 v4 u_23.1 u_23.2.1 u_23.2.2.1 u_23.2.2.2.1 u_23.2.2.2.2.1 u_23.2.2.2.2.2.1 u_23.2.2.2.2.2.2.1 u_23.2.2.2.2.2.2.2.1 u_23.2.2.2.2.2.2.2.2.1 u_23.2.2.2.2.2.2.2.2.2.1 u_23.2.2.2.2.2.2.2.2.2.2 (by first | with_reducible rfl | simp only [zl, iz_add, iz_sub, iz_mul, iz_neg]) (by first | with_reducible rfl | simp only [zl, iz_add, iz_sub, iz_mul, iz_neg]) (by first | with_reducible rfl | simp only [zl, iz_add, iz_sub, iz_mul, iz_neg]) (by first | with_reducible rfl | simp only [zl, iz_add, iz_sub, iz_mul, iz_neg]) (by first | with_reducible rfl | simp only [zl, iz_add, iz_sub, iz_mul, iz_neg]) (by first | with_reducible rfl | simp only [zl, iz_add, iz_sub, iz_mul, iz_neg]) (by first | with_reducible rfl | simp only [zl, iz_add, iz_sub, iz_mul, iz_neg]) (by first | with_reducible rfl | simp only [zl, iz_add, iz_sub, iz_mul, iz_neg]) (by first | with_reducible rfl | simp only [zl, iz_add, iz_sub, iz_mul, iz_neg]) (by first | with_reducible rfl | simp only [zl, iz_add, iz_sub, iz_mul, iz_neg]) (by first | with_reducible rfl | simp only [zl, iz_add, iz_sub, iz_mul, iz_neg]) (by first | with_reducible rfl | simp only [zl, iz_add, iz_sub, iz_mul, iz_neg]) (by first | with_reducible rfl | simp only [zl, iz_add, iz_sub, iz_mul, iz_neg]) hv
      · have hv := hv.2 (fun z9 => c9 (q_30.mpr z9))
        obtain ⟨hs_31, hv⟩ := hv
        have q_32 := z_le (x := (iz r_24)) (a := r_24) (by first | with_reducible rfl | simp only [zl, iz_add, iz_sub, iz_mul, iz_neg]) (y := (iz b2)) (b := b2) (by first | with_reducible rfl | simp only [zl, iz_add, iz_sub, iz_mul, iz_neg]) hs_31.1 hs_31.2
        refine ⟨fun c9 => ?_, fun c9 => ?_⟩
        · have hv := hv.1 (q_32.mp c9)
          exact ih _ _ _ _ _ _ _ _ _ _ _ _ _ v3 x5_21 u_23.1 u_23.2.1 u_23.2.2.1 u_23.2.2.2.1 u_23.2.2.2.2.1 u_23.2.2.2.2.2.1 u_23.2.2.2.2.2.2.1 u_23.2.2.2.2.2.2.2.1 u_23.2.2.2.2.2.2.2.2.1 u_23.2.2.2.2.2.2.2.2.2.1 u_23.2.2.2.2.2.2.2.2.2.2 (by first | with_reducible rfl | simp only [zl, iz_add, iz_sub, iz_mul, iz_neg]) (by first | with_reducible rfl | simp only [zl, iz_add, iz_sub, iz_mul, iz_neg]) (by first | with_reducible rfl | simp only [zl, iz_add, iz_sub, iz_mul, iz_neg]) (by first | with_reducible rfl | simp only [zl, iz_add, iz_sub, iz_mul, iz_neg]) (by first | with_reducible rfl | simp only [zl, iz_add, iz_sub, iz_mul, iz_neg]) (by first | with_reducible rfl | simp only [zl, iz_add, iz_sub, iz_mul, iz_neg]) (by first | with_reducible rfl | simp only [zl, iz_add, iz_sub, iz_mul, iz_neg]) (by first | with_reducible rfl | simp only [zl, iz_add, iz_sub, iz_mul, iz_neg]) (by first | with_reducible rfl | simp only [zl, iz_add, iz_sub, iz_mul, iz_neg]) (by first | with_reducible rfl | simp only [zl, iz_add, iz_sub, iz_mul, iz_neg]) (by first | with_reducible rfl | simp only [zl, iz_add, iz_sub, iz_mul, iz_neg]) (by first | with_reducible rfl | simp only [zl, iz_add, iz_sub, iz_mul, iz_neg]) (by first | with_reducible rfl | simp only [zl, iz_add, iz_sub, iz_mul, iz_neg]) hv
        · have hv := hv.2 (fun z9 => c9 (q_32.mpr z9))
          exact ih _ _ _ _ _ _ _ _ _ _ _ _ _ x5_21 v4 u_23.1 u_23.2.1 u_23.2.2.1 u_23.2.2.2.1 u_23.2.2.2.2.1 u_23.2.2.2.2.2.1 u_23.2.2.2.2.2.2.1 u_23.2.2.2.2.2.2.2.1 u_23.2.2.2.2.2.2.2.2.1 u_23.2.2.2.2.2.2.2.2.2.1 u_23.2.2.2.2.2.2.2.2.2.2 (by first | with_reducible rfl | simp only [zl, iz_add, iz_sub, iz_mul, iz_neg]) (by first | with_reducible rfl | simp only [zl, iz_add, iz_sub, iz_mul, iz_neg]) (by first | with_reducible rfl | simp only [zl, iz_add, iz_sub, iz_mul, iz_neg]) (by first | with_reducible rfl | simp only [zl, iz_add, iz_sub, iz_mul, iz_neg]) (by first | with_reducible rfl | simp only [zl, iz_add, iz_sub, iz_mul, iz_neg]) (by first | with_reducible rfl | simp only [zl, iz_add, iz_sub, iz_mul, iz_neg]) (by first | with_reducible rfl | simp only [zl, iz_add, iz_sub, iz_mul, iz_neg]) (by first | with_reducible rfl | simp only [zl, iz_add, iz_sub, iz_mul, iz_neg]) (by first | with_reducible rfl | simp only [zl, iz_add, iz_sub, iz_mul, iz_neg]) (by first | with_reducible rfl | simp only [zl, iz_add, iz_sub, iz_mul, iz_neg]) (by first | with_reducible rfl | simp only [zl, iz_add, iz_sub, iz_mul, iz_neg]) (by first | with_reducible rfl | simp only [zl, iz_add, iz_sub, iz_mul, iz_neg]) (by first | with_reducible rfl | simp only [zl, iz_add, iz_sub, iz_mul, iz_neg]) hv

def iv_X5_door (a1 : Int) (m_state : (Nat → Int)) (m_goes : (Nat → Int)) (m_waits : (Nat → Int)) (m_still : (Nat → Int)) (m_cameFrom : (Nat → Int)) (m_cameBy : (Nat → Int)) (m_wave : (Nat → Int)) (m_waved : Int) (m_goal : Int) (m_goalBy : Int) (m_until : Int) (post : Int → ((Nat → Int) × (Nat → Int) × (Nat → Int) × (Nat → Int) × (Nat → Int) × (Nat → Int) × (Nat → Int) × Int × Int × Int × Int) → Prop) : Prop :=
  (iv_X5_isPassage a1 m_state (fun (r_2 : Int) (u_1 : Unit) => ((sm r_2 ∧ sm 0) ∧ ((¬ r_2 = 0 → (iv_X5_lastOne m_state m_goes m_waits m_still m_cameFrom m_cameBy m_wave m_waved m_goal m_goalBy m_until (fun (r_10 : Int) (u_9 : (Nat → Int) × (Nat → Int) × (Nat → Int) × (Nat → Int) × (Nat → Int) × (Nat → Int) × Int × Int × Int × Int) => ((sm 0 ∧ sm r_10) ∧ ((0 ≤ r_10 → (∃ n_55, iv_X5_door_L28 (fun k4_33 m_state_34 m_goes_35 m_waits_36 m_still_37 m_cameFrom_38 m_cameBy_39 m_wave_40 m_waved_41 m_goal_42 m_goalBy_43 m_until_44 => ((sm 60 ∧ sm k4_33) ∧ ((60 < k4_33 → post (-6) (m_state_34, m_goes_35, m_waits_36, m_still_37, m_cameFrom_38, m_cameBy_39, m_wave_40, m_waved_41, m_goal_42, m_goalBy_43, m_until_44)) ∧ (¬ 60 < k4_33 → (iv_X5_lastShut a1 k4_33 m_state_34 m_goes_35 m_waits_36 m_still_37 m_cameFrom_38 m_cameBy_39 m_wave_40 m_waved_41 m_goal_42 m_goalBy_43 m_until_44 (fun (r_48 : Int) (u_47 : (Nat → Int) × (Nat → Int) × (Nat → Int) × (Nat → Int) × (Nat → Int) × (Nat → Int) × (Nat → Int) × Int × Int × Int × Int) => ((sm r_48 ∧ sm r_10) ∧ ((¬ r_48 = r_10 → post (-6) (u_47.1, u_47.2.1, u_47.2.2.1, u_47.2.2.2.1, u_47.2.2.2.2.1, u_47.2.2.2.2.2.1, u_47.2.2.2.2.2.2.1, u_47.2.2.2.2.2.2.2.1, u_47.2.2.2.2.2.2.2.2.1, u_47.2.2.2.2.2.2.2.2.2.1, u_47.2.2.2.2.2.2.2.2.2.2)) ∧ (r_48 = r_10 → post k4_33 (u_47.1, u_47.2.1, u_47.2.2.1, u_47.2.2.2.1, u_47.2.2.2.2.1, u_47.2.2.2.2.2.1, u_47.2.2.2.2.2.2.1, u_47.2.2.2.2.2.2.2.1, u_47.2.2.2.2.2.2.2.2.1, u_47.2.2.2.2.2.2.2.2.2.1, u_47.2.2.2.2.2.2.2.2.2.2))))))))))  a1 r_10 n_55 (-1) 61 m_state u_9.1 u_9.2.1 u_9.2.2.1 u_9.2.2.2.1 u_9.2.2.2.2.1 u_9.2.2.2.2.2.1 u_9.2.2.2.2.2.2.1 u_9.2.2.2.2.2.2.2.1 u_9.2.2.2.2.2.2.2.2.1 u_9.2.2.2.2.2.2.2.2.2)) ∧ (¬ 0 ≤ r_10 → post (-6) (m_state, u_9.1, u_9.2.1, u_9.2.2.1, u_9.2.2.2.1, u_9.2.2.2.2.1, u_9.2.2.2.2.2.1, u_9.2.2.2.2.2.2.1, u_9.2.2.2.2.2.2.2.1, u_9.2.2.2.2.2.2.2.2.1, u_9.2.2.2.2.2.2.2.2.2))))))) ∧ (r_2 = 0 → post (-1) (m_state, m_goes, m_waits, m_still, m_cameFrom, m_cameBy, m_wave, m_waved, m_goal, m_goalBy, m_until))))))

set_option maxHeartbeats 4000000 in
theorem lift_X5_door {a1' : Int32} {a1 : Int} {m_state' : (Nat → Int32)} {m_state : (Nat → Int)} {m_goes' : (Nat → Int32)} {m_goes : (Nat → Int)} {m_waits' : (Nat → Int32)} {m_waits : (Nat → Int)} {m_still' : (Nat → Int32)} {m_still : (Nat → Int)} {m_cameFrom' : (Nat → Int32)} {m_cameFrom : (Nat → Int)} {m_cameBy' : (Nat → Int32)} {m_cameBy : (Nat → Int)} {m_wave' : (Nat → Int32)} {m_wave : (Nat → Int)} {m_waved' : Int32} {m_waved : Int} {m_goal' : Int32} {m_goal : Int} {m_goalBy' : Int32} {m_goalBy : Int} {m_until' : Int32} {m_until : Int} (e_a1 : a1' = iz a1) (e_m_state : m_state' = az m_state) (e_m_goes : m_goes' = az m_goes) (e_m_waits : m_waits' = az m_waits) (e_m_still : m_still' = az m_still) (e_m_cameFrom : m_cameFrom' = az m_cameFrom) (e_m_cameBy : m_cameBy' = az m_cameBy) (e_m_wave : m_wave' = az m_wave) (e_m_waved : m_waved' = iz m_waved) (e_m_goal : m_goal' = iz m_goal) (e_m_goalBy : m_goalBy' = iz m_goalBy) (e_m_until : m_until' = iz m_until) {post0 : Int32 → ((Nat → Int32) × (Nat → Int32) × (Nat → Int32) × (Nat → Int32) × (Nat → Int32) × (Nat → Int32) × (Nat → Int32) × Int32 × Int32 × Int32 × Int32) → Prop} {post : Int → ((Nat → Int) × (Nat → Int) × (Nat → Int) × (Nat → Int) × (Nat → Int) × (Nat → Int) × (Nat → Int) × Int × Int × Int × Int) → Prop} (hv : iv_X5_door a1 m_state m_goes m_waits m_still m_cameFrom m_cameBy m_wave m_waved m_goal m_goalBy m_until post) (hp : ∀ (r : Int) (u : (Nat → Int) × (Nat → Int) × (Nat → Int) × (Nat → Int) × (Nat → Int) × (Nat → Int) × (Nat → Int) × Int × Int × Int × Int) (x : Int32) (y : (Nat → Int32) × (Nat → Int32) × (Nat → Int32) × (Nat → Int32) × (Nat → Int32) × (Nat → Int32) × (Nat → Int32) × Int32 × Int32 × Int32 × Int32), post r u → x = iz r → y = (az u.1, az u.2.1, az u.2.2.1, az u.2.2.2.1, az u.2.2.2.2.1, az u.2.2.2.2.2.1, az u.2.2.2.2.2.2.1, iz u.2.2.2.2.2.2.2.1, iz u.2.2.2.2.2.2.2.2.1, iz u.2.2.2.2.2.2.2.2.2.1, iz u.2.2.2.2.2.2.2.2.2.2) → post0 x y) : vc_X5_door a1' m_state' m_goes' m_waits' m_still' m_cameFrom' m_cameBy' m_wave' m_waved' m_goal' m_goalBy' m_until' post0 := by
  subst e_a1
  subst e_m_state
  subst e_m_goes
  subst e_m_waits
  subst e_m_still
  subst e_m_cameFrom
  subst e_m_cameBy
  subst e_m_wave
  subst e_m_waved
  subst e_m_goal
  subst e_m_goalBy
  subst e_m_until
  rw [iv_X5_door] at hv
  rw [vc_X5_door]
  refine lift_X5_isPassage (by first | with_reducible rfl | simp only [zl, iz_add, iz_sub, iz_mul, iz_neg]) (by first | with_reducible rfl | simp only [zl, iz_add, iz_sub, iz_mul, iz_neg]) hv (fun r_2 u_1 y_3 y_4 hv er_5 eu_6 => ?_)
  subst er_5; subst eu_6
  try dsimp only
  obtain ⟨hs_7, hv⟩ := hv
  have q_8 := z_eq (x := (iz r_2)) (a := r_2) (by first | with_reducible rfl | simp only [zl, iz_add, iz_sub, iz_mul, iz_neg]) (y := 0) (b := 0) (by first | with_reducible rfl | simp only [zl, iz_add, iz_sub, iz_mul, iz_neg]) hs_7.1 hs_7.2
  refine ⟨fun c9 => ?_, fun c9 => ?_⟩
  · have hv := hv.1 (fun z9 => c9 (q_8.mpr z9))
    refine lift_X5_lastOne (by first | with_reducible rfl | simp only [zl, iz_add, iz_sub, iz_mul, iz_neg]) (by first | with_reducible rfl | simp only [zl, iz_add, iz_sub, iz_mul, iz_neg]) (by first | with_reducible rfl | simp only [zl, iz_add, iz_sub, iz_mul, iz_neg]) (by first | with_reducible rfl | simp only [zl, iz_add, iz_sub, iz_mul, iz_neg]) (by first | with_reducible rfl | simp only [zl, iz_add, iz_sub, iz_mul, iz_neg]) (by first | with_reducible rfl | simp only [zl, iz_add, iz_sub, iz_mul, iz_neg]) (by first | with_reducible rfl | simp only [zl, iz_add, iz_sub, iz_mul, iz_neg]) (by first | with_reducible rfl | simp only [zl, iz_add, iz_sub, iz_mul, iz_neg]) (by first | with_reducible rfl | simp only [zl, iz_add, iz_sub, iz_mul, iz_neg]) (by first | with_reducible rfl | simp only [zl, iz_add, iz_sub, iz_mul, iz_neg]) (by first | with_reducible rfl | simp only [zl, iz_add, iz_sub, iz_mul, iz_neg]) hv (fun r_10 u_9 y_11 y_12 hv er_13 eu_14 => ?_)
    subst er_13; subst eu_14
    try dsimp only
    obtain ⟨hs_15, hv⟩ := hv
    have q_16 := z_le (x := 0) (a := 0) (by first | with_reducible rfl | simp only [zl, iz_add, iz_sub, iz_mul, iz_neg]) (y := (iz r_10)) (b := r_10) (by first | with_reducible rfl | simp only [zl, iz_add, iz_sub, iz_mul, iz_neg]) hs_15.1 hs_15.2
    refine ⟨fun c9 => ?_, fun c9 => ?_⟩
    · have hv := hv.1 (q_16.mp c9)
      obtain ⟨n_55, hv⟩ := hv
      refine ⟨n_55, lift_X5_door_L28 (by first | with_reducible rfl | simp only [zl, iz_add, iz_sub, iz_mul, iz_neg]) (by first | with_reducible rfl | simp only [zl, iz_add, iz_sub, iz_mul, iz_neg]) (fun y_56 y_57 y_58 y_59 y_60 y_61 y_62 y_63 y_64 y_65 y_66 y_67 k4_33 m_state_34 m_goes_35 m_waits_36 m_still_37 m_cameFrom_38 m_cameBy_39 m_wave_40 m_waved_41 m_goal_42 m_goalBy_43 m_until_44 hv ey_68 ey_69 ey_70 ey_71 ey_72 ey_73 ey_74 ey_75 ey_76 ey_77 ey_78 ey_79 => ?_)  n_55 _ _ _ _ _ _ _ _ _ _ _ _ _ (-1) 61 m_state u_9.1 u_9.2.1 u_9.2.2.1 u_9.2.2.2.1 u_9.2.2.2.2.1 u_9.2.2.2.2.2.1 u_9.2.2.2.2.2.2.1 u_9.2.2.2.2.2.2.2.1 u_9.2.2.2.2.2.2.2.2.1 u_9.2.2.2.2.2.2.2.2.2 (by first | with_reducible rfl | simp only [zl, iz_add, iz_sub, iz_mul, iz_neg]) (by first | with_reducible rfl | simp only [zl, iz_add, iz_sub, iz_mul, iz_neg]) (by first | with_reducible rfl | simp only [zl, iz_add, iz_sub, iz_mul, iz_neg]) (by first | with_reducible rfl | simp only [zl, iz_add, iz_sub, iz_mul, iz_neg]) (by first | with_reducible rfl | simp only [zl, iz_add, iz_sub, iz_mul, iz_neg]) (by first | with_reducible rfl | simp only [zl, iz_add, iz_sub, iz_mul, iz_neg]) (by first | with_reducible rfl | simp only [zl, iz_add, iz_sub, iz_mul, iz_neg]) (by first | with_reducible rfl | simp only [zl, iz_add, iz_sub, iz_mul, iz_neg]) (by first | with_reducible rfl | simp only [zl, iz_add, iz_sub, iz_mul, iz_neg]) (by first | with_reducible rfl | simp only [zl, iz_add, iz_sub, iz_mul, iz_neg]) (by first | with_reducible rfl | simp only [zl, iz_add, iz_sub, iz_mul, iz_neg]) (by first | with_reducible rfl | simp only [zl, iz_add, iz_sub, iz_mul, iz_neg]) (by first | with_reducible rfl | simp only [zl, iz_add, iz_sub, iz_mul, iz_neg]) hv⟩
      subst ey_68
      subst ey_69
      subst ey_70
      subst ey_71
      subst ey_72
      subst ey_73
      subst ey_74
      subst ey_75
      subst ey_76
      subst ey_77
      subst ey_78
      subst ey_79
      obtain ⟨hs_45, hv⟩ := hv
      have q_46 := z_lt (x := 60) (a := 60) (by first | with_reducible rfl | simp only [zl, iz_add, iz_sub, iz_mul, iz_neg]) (y := (iz k4_33)) (b := k4_33) (by first | with_reducible rfl | simp only [zl, iz_add, iz_sub, iz_mul, iz_neg]) hs_45.1 hs_45.2
      refine ⟨fun c9 => ?_, fun c9 => ?_⟩
      · have hv := hv.1 (q_46.mp c9)
        exact hp _ _ _ _ hv (by first | with_reducible rfl | simp only [zl, iz_add, iz_sub, iz_mul, iz_neg]) (by first | with_reducible rfl | simp only [zl, iz_add, iz_sub, iz_mul, iz_neg])
      · have hv := hv.2 (fun z9 => c9 (q_46.mpr z9))
        refine lift_X5_lastShut (by first | with_reducible rfl | simp only [zl, iz_add, iz_sub, iz_mul, iz_neg]) (by first | with_reducible rfl | simp only [zl, iz_add, iz_sub, iz_mul, iz_neg]) (by first | with_reducible rfl | simp only [zl, iz_add, iz_sub, iz_mul, iz_neg]) (by first | with_reducible rfl | simp only [zl, iz_add, iz_sub, iz_mul, iz_neg]) (by first | with_reducible rfl | simp only [zl, iz_add, iz_sub, iz_mul, iz_neg]) (by first | with_reducible rfl | simp only [zl, iz_add, iz_sub, iz_mul, iz_neg]) (by first | with_reducible rfl | simp only [zl, iz_add, iz_sub, iz_mul, iz_neg]) (by first | with_reducible rfl | simp only [zl, iz_add, iz_sub, iz_mul, iz_neg]) (by first | with_reducible rfl | simp only [zl, iz_add, iz_sub, iz_mul, iz_neg]) (by first | with_reducible rfl | simp only [zl, iz_add, iz_sub, iz_mul, iz_neg]) (by first | with_reducible rfl | simp only [zl, iz_add, iz_sub, iz_mul, iz_neg]) (by first | with_reducible rfl | simp only [zl, iz_add, iz_sub, iz_mul, iz_neg]) (by first | with_reducible rfl | simp only [zl, iz_add, iz_sub, iz_mul, iz_neg]) hv (fun r_48 u_47 y_49 y_50 hv er_51 eu_52 => ?_)
        subst er_51; subst eu_52
        try dsimp only
        obtain ⟨hs_53, hv⟩ := hv
        have q_54 := z_eq (x := (iz r_48)) (a := r_48) (by first | with_reducible rfl | simp only [zl, iz_add, iz_sub, iz_mul, iz_neg]) (y := (iz r_10)) (b := r_10) (by first | with_reducible rfl | simp only [zl, iz_add, iz_sub, iz_mul, iz_neg]) hs_53.1 hs_53.2
        refine ⟨fun c9 => ?_, fun c9 => ?_⟩
        · have hv := hv.1 (fun z9 => c9 (q_54.mpr z9))
          exact hp _ _ _ _ hv (by first | with_reducible rfl | simp only [zl, iz_add, iz_sub, iz_mul, iz_neg]) (by first | with_reducible rfl | simp only [zl, iz_add, iz_sub, iz_mul, iz_neg])
        · have hv := hv.2 (q_54.mp c9)
          exact hp _ _ _ _ hv (by first | with_reducible rfl | simp only [zl, iz_add, iz_sub, iz_mul, iz_neg]) (by first | with_reducible rfl | simp only [zl, iz_add, iz_sub, iz_mul, iz_neg])
    · have hv := hv.2 (fun z9 => c9 (q_16.mpr z9))
      exact hp _ _ _ _ hv (by first | with_reducible rfl | simp only [zl, iz_add, iz_sub, iz_mul, iz_neg]) (by first | with_reducible rfl | simp only [zl, iz_add, iz_sub, iz_mul, iz_neg])
  · have hv := hv.2 (q_8.mp c9)
    exact hp _ _ _ _ hv (by first | with_reducible rfl | simp only [zl, iz_add, iz_sub, iz_mul, iz_neg]) (by first | with_reducible rfl | simp only [zl, iz_add, iz_sub, iz_mul, iz_neg])

def iv_X5_isOpen (a1 : Int) (a2 : Int) (m_state : (Nat → Int)) (post : Int → Unit → Prop) : Prop :=
  ((0 ≤ (58 + a1) ∧ (58 + a1) < 69) ∧ ((sm (m_state ((58 + a1)).toNat) ∧ sm a2) ∧ (((m_state ((58 + a1)).toNat) ≤ a2 → post 0 ()) ∧ (¬ (m_state ((58 + a1)).toNat) ≤ a2 → post 1 ()))))

set_option maxHeartbeats 4000000 in
theorem lift_X5_isOpen {a1' : Int32} {a1 : Int} {a2' : Int32} {a2 : Int} {m_state' : (Nat → Int32)} {m_state : (Nat → Int)} (e_a1 : a1' = iz a1) (e_a2 : a2' = iz a2) (e_m_state : m_state' = az m_state) {post0 : Int32 → Unit → Prop} {post : Int → Unit → Prop} (hv : iv_X5_isOpen a1 a2 m_state post) (hp : ∀ (r : Int) (u : Unit) (x : Int32) (y : Unit), post r u → x = iz r → y = () → post0 x y) : vc_X5_isOpen a1' a2' m_state' post0 := by
  subst e_a1
  subst e_a2
  subst e_m_state
  rw [iv_X5_isOpen] at hv
  rw [vc_X5_isOpen]
  obtain ⟨hi_1, hv⟩ := hv
  refine ⟨z_in (by first | with_reducible rfl | simp only [zl, iz_add, iz_sub, iz_mul, iz_neg]) hi_1 (by decide), ?_⟩
  have e_2 : ((az m_state) ((58 + (iz a1))).toNatClampNeg) = iz (m_state ((58 + a1)).toNat) := z_at (by first | with_reducible rfl | simp only [zl, iz_add, iz_sub, iz_mul, iz_neg]) (by first | with_reducible rfl | simp only [zl, iz_add, iz_sub, iz_mul, iz_neg]) hi_1 (by decide)
  try rw [e_2]
  obtain ⟨hs_3, hv⟩ := hv
  have q_4 := z_le (x := (iz (m_state ((58 + a1)).toNat))) (a := (m_state ((58 + a1)).toNat)) (by first | with_reducible rfl | simp only [zl, iz_add, iz_sub, iz_mul, iz_neg]) (y := (iz a2)) (b := a2) (by first | with_reducible rfl | simp only [zl, iz_add, iz_sub, iz_mul, iz_neg]) hs_3.1 hs_3.2
  refine ⟨fun c9 => ?_, fun c9 => ?_⟩
  · have hv := hv.1 (q_4.mp c9)
    exact hp _ _ _ _ hv (by first | with_reducible rfl | simp only [zl, iz_add, iz_sub, iz_mul, iz_neg]) (by first | with_reducible rfl | simp only [zl, iz_add, iz_sub, iz_mul, iz_neg])
  · have hv := hv.2 (fun z9 => c9 (q_4.mpr z9))
    exact hp _ _ _ _ hv (by first | with_reducible rfl | simp only [zl, iz_add, iz_sub, iz_mul, iz_neg]) (by first | with_reducible rfl | simp only [zl, iz_add, iz_sub, iz_mul, iz_neg])

def iv_X5_layFar_L2 (K : (Nat → Int) → Prop) (m_state : (Nat → Int)) : Nat → Int → (Nat → Int) → Prop
  | 0, _, _ => False
  | n + 1, v2, m_far =>
    ((sm 6 ∧ sm v2) ∧ ((6 ≤ v2 → K m_far) ∧ (¬ 6 ≤ v2 → (iv_X5_isSafe v2 m_state (fun (r_4 : Int) (u_3 : Unit) => ((sm r_4 ∧ sm 0) ∧ ((r_4 = 0 → ((0 ≤ v2 ∧ v2 < 6) ∧ (∀ x2_13 : Int, x2_13 = v2 + 1 → iv_X5_layFar_L2 K m_state n x2_13 (uz m_far v2.toNat 1000)))) ∧ (¬ r_4 = 0 → ((0 ≤ v2 ∧ v2 < 6) ∧ (∀ x2_17 : Int, x2_17 = v2 + 1 → iv_X5_layFar_L2 K m_state n x2_17 (uz m_far v2.toNat 0)))))))))))

set_option maxHeartbeats 4000000 in
theorem lift_X5_layFar_L2 {K0 : (Nat → Int32) → Prop} {K : (Nat → Int) → Prop} {m_state' : (Nat → Int32)} {m_state : (Nat → Int)} (e_m_state : m_state' = az m_state)  (hKx : ∀ (k_m_far' : (Nat → Int32)) (k_m_far : (Nat → Int)), K k_m_far → k_m_far' = az k_m_far →  K0 k_m_far') :
    ∀ (n : Nat) (v2' : Int32) (m_far' : (Nat → Int32)) (v2 : Int) (m_far : (Nat → Int)) (e_v2 : v2' = iz v2) (e_m_far : m_far' = az m_far), iv_X5_layFar_L2 K m_state n v2 m_far → vc_X5_layFar_L2 K0 m_state' n v2' m_far' := by
  subst e_m_state
  intro n
  induction n with
  | zero =>
    intro v2' m_far' v2 m_far e_v2 e_m_far hv
    exact False.elim hv
  | succ n ih =>
    intro v2' m_far' v2 m_far e_v2 e_m_far hv
    subst e_v2
    subst e_m_far
    rw [iv_X5_layFar_L2] at hv
    rw [vc_X5_layFar_L2]
    obtain ⟨hs_1, hv⟩ := hv
    have q_2 := z_le (x := 6) (a := 6) (by first | with_reducible rfl | simp only [zl, iz_add, iz_sub, iz_mul, iz_neg]) (y := (iz v2)) (b := v2) (by first | with_reducible rfl | simp only [zl, iz_add, iz_sub, iz_mul, iz_neg]) hs_1.1 hs_1.2
    refine ⟨fun c9 => ?_, fun c9 => ?_⟩
    · have hv := hv.1 (q_2.mp c9)
      exact hKx _ m_far hv (by first | with_reducible rfl | simp only [zl, iz_add, iz_sub, iz_mul, iz_neg])
    · have hv := hv.2 (fun z9 => c9 (q_2.mpr z9))
      refine lift_X5_isSafe (by first | with_reducible rfl | simp only [zl, iz_add, iz_sub, iz_mul, iz_neg]) (by first | with_reducible rfl | simp only [zl, iz_add, iz_sub, iz_mul, iz_neg]) hv (fun r_4 u_3 y_5 y_6 hv er_7 eu_8 => ?_)
      subst er_7; subst eu_8
      try dsimp only
      obtain ⟨hs_9, hv⟩ := hv
      have q_10 := z_eq (x := (iz r_4)) (a := r_4) (by first | with_reducible rfl | simp only [zl, iz_add, iz_sub, iz_mul, iz_neg]) (y := 0) (b := 0) (by first | with_reducible rfl | simp only [zl, iz_add, iz_sub, iz_mul, iz_neg]) hs_9.1 hs_9.2
      refine ⟨fun c9 => ?_, fun c9 => ?_⟩
      · have hv := hv.1 (q_10.mp c9)
        obtain ⟨hi_11, hv⟩ := hv
        refine ⟨z_in (by first | with_reducible rfl | simp only [zl, iz_add, iz_sub, iz_mul, iz_neg]) hi_11 (by decide), ?_⟩
        have e_12 : (upd (az m_far) ((iz v2)).toNatClampNeg 1000) = az (uz m_far v2.toNat 1000) := z_upd (by first | with_reducible rfl | simp only [zl, iz_add, iz_sub, iz_mul, iz_neg]) (by first | with_reducible rfl | simp only [zl, iz_add, iz_sub, iz_mul, iz_neg]) (by first | with_reducible rfl | simp only [zl, iz_add, iz_sub, iz_mul, iz_neg]) hi_11 (by decide)
        try rw [e_12]
        intro y_14 hy_14
        obtain ⟨x2_13, hx2_13⟩ : ∃ z : Int, z = v2 + 1 := ⟨_, rfl⟩
        have hv := hv x2_13 hx2_13
        have ey_14 : y_14 = iz x2_13 := by rw [hy_14, hx2_13]; try exact (by first | with_reducible rfl | simp only [zl, iz_add, iz_sub, iz_mul, iz_neg])
        subst ey_14
        exact ih _ _ x2_13 (uz m_far v2.toNat 1000) (by first | with_reducible rfl | simp only [zl, iz_add, iz_sub, iz_mul, iz_neg]) (by first | with_reducible rfl | simp only [zl, iz_add, iz_sub, iz_mul, iz_neg]) hv
      · have hv := hv.2 (fun z9 => c9 (q_10.mpr z9))
        obtain ⟨hi_15, hv⟩ := hv
        refine ⟨z_in (by first | with_reducible rfl | simp only [zl, iz_add, iz_sub, iz_mul, iz_neg]) hi_15 (by decide), ?_⟩
        have e_16 : (upd (az m_far) ((iz v2)).toNatClampNeg 0) = az (uz m_far v2.toNat 0) := z_upd (by first | with_reducible rfl | simp only [zl, iz_add, iz_sub, iz_mul, iz_neg]) (by first | with_reducible rfl | simp only [zl, iz_add, iz_sub, iz_mul, iz_neg]) (by first | with_reducible rfl | simp only [zl, iz_add, iz_sub, iz_mul, iz_neg]) hi_15 (by decide)
        try rw [e_16]
        intro y_18 hy_18
        obtain ⟨x2_17, hx2_17⟩ : ∃ z : Int, z = v2 + 1 := ⟨_, rfl⟩
        have hv := hv x2_17 hx2_17
        have ey_18 : y_18 = iz x2_17 := by rw [hy_18, hx2_17]; try exact (by first | with_reducible rfl | simp only [zl, iz_add, iz_sub, iz_mul, iz_neg])
        subst ey_18
        exact ih _ _ x2_17 (uz m_far v2.toNat 0) (by first | with_reducible rfl | simp only [zl, iz_add, iz_sub, iz_mul, iz_neg]) (by first | with_reducible rfl | simp only [zl, iz_add, iz_sub, iz_mul, iz_neg]) hv

def iv_X5_layFar_L45 (K : (Nat → Int) → Prop) (b1 : Int) (m_state : (Nat → Int)) : Nat → Int → (Nat → Int) → Prop
  | 0, _, _ => False
  | n + 1, v3, m_far =>
    (iv_X5_many m_state (fun (r_23 : Int) (u_22 : Unit) => ((sm r_23 ∧ sm v3) ∧ ((r_23 ≤ v3 → K m_far) ∧ (¬ r_23 ≤ v3 → ((0 ≤ (28 + v3) ∧ (28 + v3) < 69) ∧ ((0 ≤ (m_state ((28 + v3)).toNat) ∧ (m_state ((28 + v3)).toNat) < 6) ∧ ((0 ≤ (48 + v3) ∧ (48 + v3) < 69) ∧ (∀ x4_36 : Int, x4_36 = ((m_far ((m_state ((28 + v3)).toNat)).toNat) + (m_state ((48 + v3)).toNat)) → ((0 ≤ (18 + v3) ∧ (18 + v3) < 69) ∧ (∀ x5_40 : Int, x5_40 = (m_state ((18 + v3)).toNat) → (iv_X5_isOpen v3 b1 m_state (fun (r_43 : Int) (u_42 : Unit) => ((sm r_43 ∧ sm 0) ∧ ((r_43 = 0 → ((0 ≤ x5_40 ∧ x5_40 < 6) ∧ ((0 ≤ x5_40 ∧ x5_40 < 6) ∧ (∀ x3_54 : Int, x3_54 = v3 + 1 → iv_X5_layFar_L45 K b1 m_state n x3_54 (uz m_far x5_40.toNat (m_far x5_40.toNat)))))) ∧ (¬ r_43 = 0 → (iv_X5_isSafe x5_40 m_state (fun (r_57 : Int) (u_56 : Unit) => ((sm r_57 ∧ sm 0) ∧ ((¬ r_57 = 0 → ((0 ≤ x5_40 ∧ x5_40 < 6) ∧ ((0 ≤ x5_40 ∧ x5_40 < 6) ∧ (∀ x3_68 : Int, x3_68 = v3 + 1 → iv_X5_layFar_L45 K b1 m_state n x3_68 (uz m_far x5_40.toNat (m_far x5_40.toNat)))))) ∧ (r_57 = 0 → ((0 ≤ x5_40 ∧ x5_40 < 6) ∧ ((sm (m_far x5_40.toNat) ∧ sm x4_36) ∧ (((m_far x5_40.toNat) ≤ x4_36 → ((0 ≤ x5_40 ∧ x5_40 < 6) ∧ ((0 ≤ x5_40 ∧ x5_40 < 6) ∧ (∀ x3_78 : Int, x3_78 = v3 + 1 → iv_X5_layFar_L45 K b1 m_state n x3_78 (uz m_far x5_40.toNat (m_far x5_40.toNat)))))) ∧ (¬ (m_far x5_40.toNat) ≤ x4_36 → ((0 ≤ x5_40 ∧ x5_40 < 6) ∧ (∀ x3_82 : Int, x3_82 = v3 + 1 → iv_X5_layFar_L45 K b1 m_state n x3_82 (uz m_far x5_40.toNat x4_36))))))))))))))))))))))))))))

set_option maxHeartbeats 4000000 in
theorem lift_X5_layFar_L45 {K0 : (Nat → Int32) → Prop} {K : (Nat → Int) → Prop} {b1' : Int32} {b1 : Int} {m_state' : (Nat → Int32)} {m_state : (Nat → Int)} (e_b1 : b1' = iz b1) (e_m_state : m_state' = az m_state)  (hKx : ∀ (k_m_far' : (Nat → Int32)) (k_m_far : (Nat → Int)), K k_m_far → k_m_far' = az k_m_far →  K0 k_m_far') :
    ∀ (n : Nat) (v3' : Int32) (m_far' : (Nat → Int32)) (v3 : Int) (m_far : (Nat → Int)) (e_v3 : v3' = iz v3) (e_m_far : m_far' = az m_far), iv_X5_layFar_L45 K b1 m_state n v3 m_far → vc_X5_layFar_L45 K0 b1' m_state' n v3' m_far' := by
  subst e_b1
  subst e_m_state
  intro n
  induction n with
  | zero =>
    intro v3' m_far' v3 m_far e_v3 e_m_far hv
    exact False.elim hv
  | succ n ih =>
    intro v3' m_far' v3 m_far e_v3 e_m_far hv
    subst e_v3
    subst e_m_far
    rw [iv_X5_layFar_L45] at hv
    rw [vc_X5_layFar_L45]
    refine lift_X5_many (by first | with_reducible rfl | simp only [zl, iz_add, iz_sub, iz_mul, iz_neg]) hv (fun r_23 u_22 y_24 y_25 hv er_26 eu_27 => ?_)
    subst er_26; subst eu_27
    try dsimp only
    obtain ⟨hs_28, hv⟩ := hv
    have q_29 := z_le (x := (iz r_23)) (a := r_23) (by first | with_reducible rfl | simp only [zl, iz_add, iz_sub, iz_mul, iz_neg]) (y := (iz v3)) (b := v3) (by first | with_reducible rfl | simp only [zl, iz_add, iz_sub, iz_mul, iz_neg]) hs_28.1 hs_28.2
    refine ⟨fun c9 => ?_, fun c9 => ?_⟩
    · have hv := hv.1 (q_29.mp c9)
      exact hKx _ m_far hv (by first | with_reducible rfl | simp only [zl, iz_add, iz_sub, iz_mul, iz_neg])
    · have hv := hv.2 (fun z9 => c9 (q_29.mpr z9))
      obtain ⟨hi_30, hv⟩ := hv
      refine ⟨z_in (by first | with_reducible rfl | simp only [zl, iz_add, iz_sub, iz_mul, iz_neg]) hi_30 (by decide), ?_⟩
      have e_31 : ((az m_state) ((28 + (iz v3))).toNatClampNeg) = iz (m_state ((28 + v3)).toNat) := z_at (by first | with_reducible rfl | simp only [zl, iz_add, iz_sub, iz_mul, iz_neg]) (by first | with_reducible rfl | simp only [zl, iz_add, iz_sub, iz_mul, iz_neg]) hi_30 (by decide)
      try rw [e_31]
      obtain ⟨hi_32, hv⟩ := hv
      refine ⟨z_in (by first | with_reducible rfl | simp only [zl, iz_add, iz_sub, iz_mul, iz_neg]) hi_32 (by decide), ?_⟩
      have e_33 : ((az m_far) ((iz (m_state ((28 + v3)).toNat))).toNatClampNeg) = iz (m_far ((m_state ((28 + v3)).toNat)).toNat) := z_at (by first | with_reducible rfl | simp only [zl, iz_add, iz_sub, iz_mul, iz_neg]) (by first | with_reducible rfl | simp only [zl, iz_add, iz_sub, iz_mul, iz_neg]) hi_32 (by decide)
      try rw [e_33]
      obtain ⟨hi_34, hv⟩ := hv
      refine ⟨z_in (by first | with_reducible rfl | simp only [zl, iz_add, iz_sub, iz_mul, iz_neg]) hi_34 (by decide), ?_⟩
      have e_35 : ((az m_state) ((48 + (iz v3))).toNatClampNeg) = iz (m_state ((48 + v3)).toNat) := z_at (by first | with_reducible rfl | simp only [zl, iz_add, iz_sub, iz_mul, iz_neg]) (by first | with_reducible rfl | simp only [zl, iz_add, iz_sub, iz_mul, iz_neg]) hi_34 (by decide)
      try rw [e_35]
      intro y_37 hy_37
      obtain ⟨x4_36, hx4_36⟩ : ∃ z : Int, z = ((m_far ((m_state ((28 + v3)).toNat)).toNat) + (m_state ((48 + v3)).toNat)) := ⟨_, rfl⟩
      have hv := hv x4_36 hx4_36
      have ey_37 : y_37 = iz x4_36 := by rw [hy_37, hx4_36]; try exact (by first | with_reducible rfl | simp only [zl, iz_add, iz_sub, iz_mul, iz_neg])
      subst ey_37
      obtain ⟨hi_38, hv⟩ := hv
      refine ⟨z_in (by first | with_reducible rfl | simp only [zl, iz_add, iz_sub, iz_mul, iz_neg]) hi_38 (by decide), ?_⟩
      have e_39 : ((az m_state) ((18 + (iz v3))).toNatClampNeg) = iz (m_state ((18 + v3)).toNat) := z_at (by first | with_reducible rfl | simp only [zl, iz_add, iz_sub, iz_mul, iz_neg]) (by first | with_reducible rfl | simp only [zl, iz_add, iz_sub, iz_mul, iz_neg]) hi_38 (by decide)
      try rw [e_39]
      intro y_41 hy_41
      obtain ⟨x5_40, hx5_40⟩ : ∃ z : Int, z = (m_state ((18 + v3)).toNat) := ⟨_, rfl⟩
      have hv := hv x5_40 hx5_40
      have ey_41 : y_41 = iz x5_40 := by rw [hy_41, hx5_40]; try exact (by first | with_reducible rfl | simp only [zl, iz_add, iz_sub, iz_mul, iz_neg])
      subst ey_41
      refine lift_X5_isOpen (by first | with_reducible rfl | simp only [zl, iz_add, iz_sub, iz_mul, iz_neg]) (by first | with_reducible rfl | simp only [zl, iz_add, iz_sub, iz_mul, iz_neg]) (by first | with_reducible rfl | simp only [zl, iz_add, iz_sub, iz_mul, iz_neg]) hv (fun r_43 u_42 y_44 y_45 hv er_46 eu_47 => ?_)
      subst er_46; subst eu_47
      try dsimp only
      obtain ⟨hs_48, hv⟩ := hv
      have q_49 := z_eq (x := (iz r_43)) (a := r_43) (by first | with_reducible rfl | simp only [zl, iz_add, iz_sub, iz_mul, iz_neg]) (y := 0) (b := 0) (by first | with_reducible rfl | simp only [zl, iz_add, iz_sub, iz_mul, iz_neg]) hs_48.1 hs_48.2
      refine ⟨fun c9 => ?_, fun c9 => ?_⟩
      · have hv := hv.1 (q_49.mp c9)
        obtain ⟨hi_50, hv⟩ := hv
        refine ⟨z_in (by first | with_reducible rfl | simp only [zl, iz_add, iz_sub, iz_mul, iz_neg]) hi_50 (by decide), ?_⟩
        have e_51 : ((az m_far) ((iz x5_40)).toNatClampNeg) = iz (m_far x5_40.toNat) := z_at (by first | with_reducible rfl | simp only [zl, iz_add, iz_sub, iz_mul, iz_neg]) (by first | with_reducible rfl | simp only [zl, iz_add, iz_sub, iz_mul, iz_neg]) hi_50 (by decide)
        try rw [e_51]
        obtain ⟨hi_52, hv⟩ := hv
        refine ⟨z_in (by first | with_reducible rfl | simp only [zl, iz_add, iz_sub, iz_mul, iz_neg]) hi_52 (by decide), ?_⟩
        have e_53 : (upd (az m_far) ((iz x5_40)).toNatClampNeg (iz (m_far x5_40.toNat))) = az (uz m_far x5_40.toNat (m_far x5_40.toNat)) := z_upd (by first | with_reducible rfl | simp only [zl, iz_add, iz_sub, iz_mul, iz_neg]) (by first | with_reducible rfl | simp only [zl, iz_add, iz_sub, iz_mul, iz_neg]) (by first | with_reducible rfl | simp only [zl, iz_add, iz_sub, iz_mul, iz_neg]) hi_52 (by decide)
        try rw [e_53]
        intro y_55 hy_55
        obtain ⟨x3_54, hx3_54⟩ : ∃ z : Int, z = v3 + 1 := ⟨_, rfl⟩
        have hv := hv x3_54 hx3_54
        have ey_55 : y_55 = iz x3_54 := by rw [hy_55, hx3_54]; try exact (by first | with_reducible rfl | simp only [zl, iz_add, iz_sub, iz_mul, iz_neg])
        subst ey_55
        exact ih _ _ x3_54 (uz m_far x5_40.toNat (m_far x5_40.toNat)) (by first | with_reducible rfl | simp only [zl, iz_add, iz_sub, iz_mul, iz_neg]) (by first | with_reducible rfl | simp only [zl, iz_add, iz_sub, iz_mul, iz_neg]) hv
      · have hv := hv.2 (fun z9 => c9 (q_49.mpr z9))
        refine lift_X5_isSafe (by first | with_reducible rfl | simp only [zl, iz_add, iz_sub, iz_mul, iz_neg]) (by first | with_reducible rfl | simp only [zl, iz_add, iz_sub, iz_mul, iz_neg]) hv (fun r_57 u_56 y_58 y_59 hv er_60 eu_61 => ?_)
        subst er_60; subst eu_61
        try dsimp only
        obtain ⟨hs_62, hv⟩ := hv
        have q_63 := z_eq (x := (iz r_57)) (a := r_57) (by first | with_reducible rfl | simp only [zl, iz_add, iz_sub, iz_mul, iz_neg]) (y := 0) (b := 0) (by first | with_reducible rfl | simp only [zl, iz_add, iz_sub, iz_mul, iz_neg]) hs_62.1 hs_62.2
        refine ⟨fun c9 => ?_, fun c9 => ?_⟩
        · have hv := hv.1 (fun z9 => c9 (q_63.mpr z9))
          obtain ⟨hi_64, hv⟩ := hv
          refine ⟨z_in (by first | with_reducible rfl | simp only [zl, iz_add, iz_sub, iz_mul, iz_neg]) hi_64 (by decide), ?_⟩
          have e_65 : ((az m_far) ((iz x5_40)).toNatClampNeg) = iz (m_far x5_40.toNat) := z_at (by first | with_reducible rfl | simp only [zl, iz_add, iz_sub, iz_mul, iz_neg]) (by first | with_reducible rfl | simp only [zl, iz_add, iz_sub, iz_mul, iz_neg]) hi_64 (by decide)
          try rw [e_65]
          obtain ⟨hi_66, hv⟩ := hv
          refine ⟨z_in (by first | with_reducible rfl | simp only [zl, iz_add, iz_sub, iz_mul, iz_neg]) hi_66 (by decide), ?_⟩
          have e_67 : (upd (az m_far) ((iz x5_40)).toNatClampNeg (iz (m_far x5_40.toNat))) = az (uz m_far x5_40.toNat (m_far x5_40.toNat)) := z_upd (by first | with_reducible rfl | simp only [zl, iz_add, iz_sub, iz_mul, iz_neg]) (by first | with_reducible rfl | simp only [zl, iz_add, iz_sub, iz_mul, iz_neg]) (by first | with_reducible rfl | simp only [zl, iz_add, iz_sub, iz_mul, iz_neg]) hi_66 (by decide)
          try rw [e_67]
          intro y_69 hy_69
          obtain ⟨x3_68, hx3_68⟩ : ∃ z : Int, z = v3 + 1 := ⟨_, rfl⟩
          have hv := hv x3_68 hx3_68
          have ey_69 : y_69 = iz x3_68 := by rw [hy_69, hx3_68]; try exact (by first | with_reducible rfl | simp only [zl, iz_add, iz_sub, iz_mul, iz_neg])
          subst ey_69
          exact ih _ _ x3_68 (uz m_far x5_40.toNat (m_far x5_40.toNat)) (by first | with_reducible rfl | simp only [zl, iz_add, iz_sub, iz_mul, iz_neg]) (by first | with_reducible rfl | simp only [zl, iz_add, iz_sub, iz_mul, iz_neg]) hv
        · have hv := hv.2 (q_63.mp c9)
          obtain ⟨hi_70, hv⟩ := hv
          refine ⟨z_in (by first | with_reducible rfl | simp only [zl, iz_add, iz_sub, iz_mul, iz_neg]) hi_70 (by decide), ?_⟩
          have e_71 : ((az m_far) ((iz x5_40)).toNatClampNeg) = iz (m_far x5_40.toNat) := z_at (by first | with_reducible rfl | simp only [zl, iz_add, iz_sub, iz_mul, iz_neg]) (by first | with_reducible rfl | simp only [zl, iz_add, iz_sub, iz_mul, iz_neg]) hi_70 (by decide)
          try rw [e_71]
          obtain ⟨hs_72, hv⟩ := hv
          have q_73 := z_le (x := (iz (m_far x5_40.toNat))) (a := (m_far x5_40.toNat)) (by first | with_reducible rfl | simp only [zl, iz_add, iz_sub, iz_mul, iz_neg]) (y := (iz x4_36)) (b := x4_36) (by first | with_reducible rfl | simp only [zl, iz_add, iz_sub, iz_mul, iz_neg]) hs_72.1 hs_72.2
          refine ⟨fun c9 => ?_, fun c9 => ?_⟩
          · have hv := hv.1 (q_73.mp c9)
            obtain ⟨hi_74, hv⟩ := hv
            refine ⟨z_in (by first | with_reducible rfl | simp only [zl, iz_add, iz_sub, iz_mul, iz_neg]) hi_74 (by decide), ?_⟩
            have e_75 : ((az m_far) ((iz x5_40)).toNatClampNeg) = iz (m_far x5_40.toNat) := z_at (by first | with_reducible rfl | simp only [zl, iz_add, iz_sub, iz_mul, iz_neg]) (by first | with_reducible rfl | simp only [zl, iz_add, iz_sub, iz_mul, iz_neg]) hi_74 (by decide)
            try rw [e_75]
            obtain ⟨hi_76, hv⟩ := hv
            refine ⟨z_in (by first | with_reducible rfl | simp only [zl, iz_add, iz_sub, iz_mul, iz_neg]) hi_76 (by decide), ?_⟩
            have e_77 : (upd (az m_far) ((iz x5_40)).toNatClampNeg (iz (m_far x5_40.toNat))) = az (uz m_far x5_40.toNat (m_far x5_40.toNat)) := z_upd (by first | with_reducible rfl | simp only [zl, iz_add, iz_sub, iz_mul, iz_neg]) (by first | with_reducible rfl | simp only [zl, iz_add, iz_sub, iz_mul, iz_neg]) (by first | with_reducible rfl | simp only [zl, iz_add, iz_sub, iz_mul, iz_neg]) hi_76 (by decide)
            try rw [e_77]
            intro y_79 hy_79
            obtain ⟨x3_78, hx3_78⟩ : ∃ z : Int, z = v3 + 1 := ⟨_, rfl⟩
            have hv := hv x3_78 hx3_78
            have ey_79 : y_79 = iz x3_78 := by rw [hy_79, hx3_78]; try exact (by first | with_reducible rfl | simp only [zl, iz_add, iz_sub, iz_mul, iz_neg])
            subst ey_79
            exact ih _ _ x3_78 (uz m_far x5_40.toNat (m_far x5_40.toNat)) (by first | with_reducible rfl | simp only [zl, iz_add, iz_sub, iz_mul, iz_neg]) (by first | with_reducible rfl | simp only [zl, iz_add, iz_sub, iz_mul, iz_neg]) hv
          · have hv := hv.2 (fun z9 => c9 (q_73.mpr z9))
            obtain ⟨hi_80, hv⟩ := hv
            refine ⟨z_in (by first | with_reducible rfl | simp only [zl, iz_add, iz_sub, iz_mul, iz_neg]) hi_80 (by decide), ?_⟩
            have e_81 : (upd (az m_far) ((iz x5_40)).toNatClampNeg (iz x4_36)) = az (uz m_far x5_40.toNat x4_36) := z_upd (by first | with_reducible rfl | simp only [zl, iz_add, iz_sub, iz_mul, iz_neg]) (by first | with_reducible rfl | simp only [zl, iz_add, iz_sub, iz_mul, iz_neg]) (by first | with_reducible rfl | simp only [zl, iz_add, iz_sub, iz_mul, iz_neg]) hi_80 (by decide)
            try rw [e_81]
            intro y_83 hy_83
            obtain ⟨x3_82, hx3_82⟩ : ∃ z : Int, z = v3 + 1 := ⟨_, rfl⟩
            have hv := hv x3_82 hx3_82
            have ey_83 : y_83 = iz x3_82 := by rw [hy_83, hx3_82]; try exact (by first | with_reducible rfl | simp only [zl, iz_add, iz_sub, iz_mul, iz_neg])
            subst ey_83
            exact ih _ _ x3_82 (uz m_far x5_40.toNat x4_36) (by first | with_reducible rfl | simp only [zl, iz_add, iz_sub, iz_mul, iz_neg]) (by first | with_reducible rfl | simp only [zl, iz_add, iz_sub, iz_mul, iz_neg]) hv

def iv_X5_layFar_L37 (K : (Nat → Int) → Prop) (b1 : Int) (m_state : (Nat → Int)) : Nat → Int → (Nat → Int) → Prop
  | 0, _, _ => False
  | n + 1, v2, m_far =>
    ((sm 6 ∧ sm v2) ∧ ((6 ≤ v2 → K m_far) ∧ (¬ 6 ≤ v2 → (∃ n_87, iv_X5_layFar_L45 (fun m_far_84 => (∀ x2_85 : Int, x2_85 = v2 + 1 → iv_X5_layFar_L37 K b1 m_state n x2_85 m_far_84))  b1 m_state n_87 0 m_far))))

set_option maxHeartbeats 4000000 in
theorem lift_X5_layFar_L37 {K0 : (Nat → Int32) → Prop} {K : (Nat → Int) → Prop} {b1' : Int32} {b1 : Int} {m_state' : (Nat → Int32)} {m_state : (Nat → Int)} (e_b1 : b1' = iz b1) (e_m_state : m_state' = az m_state)  (hKx : ∀ (k_m_far' : (Nat → Int32)) (k_m_far : (Nat → Int)), K k_m_far → k_m_far' = az k_m_far →  K0 k_m_far') :
    ∀ (n : Nat) (v2' : Int32) (m_far' : (Nat → Int32)) (v2 : Int) (m_far : (Nat → Int)) (e_v2 : v2' = iz v2) (e_m_far : m_far' = az m_far), iv_X5_layFar_L37 K b1 m_state n v2 m_far → vc_X5_layFar_L37 K0 b1' m_state' n v2' m_far' := by
  subst e_b1
  subst e_m_state
  intro n
  induction n with
  | zero =>
    intro v2' m_far' v2 m_far e_v2 e_m_far hv
    exact False.elim hv
  | succ n ih =>
    intro v2' m_far' v2 m_far e_v2 e_m_far hv
    subst e_v2
    subst e_m_far
    rw [iv_X5_layFar_L37] at hv
    rw [vc_X5_layFar_L37]
    obtain ⟨hs_20, hv⟩ := hv
    have q_21 := z_le (x := 6) (a := 6) (by first | with_reducible rfl | simp only [zl, iz_add, iz_sub, iz_mul, iz_neg]) (y := (iz v2)) (b := v2) (by first | with_reducible rfl | simp only [zl, iz_add, iz_sub, iz_mul, iz_neg]) hs_20.1 hs_20.2
    refine ⟨fun c9 => ?_, fun c9 => ?_⟩
    · have hv := hv.1 (q_21.mp c9)
      exact hKx _ m_far hv (by first | with_reducible rfl | simp only [zl, iz_add, iz_sub, iz_mul, iz_neg])
    · have hv := hv.2 (fun z9 => c9 (q_21.mpr z9))
      obtain ⟨n_87, hv⟩ := hv
      refine ⟨n_87, lift_X5_layFar_L45 (by first | with_reducible rfl | simp only [zl, iz_add, iz_sub, iz_mul, iz_neg]) (by first | with_reducible rfl | simp only [zl, iz_add, iz_sub, iz_mul, iz_neg]) (fun y_88 m_far_84 hv ey_89 => ?_)  n_87 _ _ 0 m_far (by first | with_reducible rfl | simp only [zl, iz_add, iz_sub, iz_mul, iz_neg]) (by first | with_reducible rfl | simp only [zl, iz_add, iz_sub, iz_mul, iz_neg]) hv⟩
      subst ey_89
      intro y_86 hy_86
      obtain ⟨x2_85, hx2_85⟩ : ∃ z : Int, z = v2 + 1 := ⟨_, rfl⟩
      have hv := hv x2_85 hx2_85
      have ey_86 : y_86 = iz x2_85 := by rw [hy_86, hx2_85]; try exact (by first | with_reducible rfl | simp only [zl, iz_add, iz_sub, iz_mul, iz_neg])
      subst ey_86
      exact ih _ _ x2_85 m_far_84 (by first | with_reducible rfl | simp only [zl, iz_add, iz_sub, iz_mul, iz_neg]) (by first | with_reducible rfl | simp only [zl, iz_add, iz_sub, iz_mul, iz_neg]) hv

def iv_X5_layFar (a1 : Int) (m_state : (Nat → Int)) (m_far : (Nat → Int)) (post : (Nat → Int) → Prop) : Prop :=
  (∃ n_94, iv_X5_layFar_L2 (fun m_far_19 => (∃ n_91, iv_X5_layFar_L37 (fun m_far_90 => post m_far_90)  a1 m_state n_91 0 m_far_19))  m_state n_94 0 m_far)

set_option maxHeartbeats 4000000 in
theorem lift_X5_layFar {a1' : Int32} {a1 : Int} {m_state' : (Nat → Int32)} {m_state : (Nat → Int)} {m_far' : (Nat → Int32)} {m_far : (Nat → Int)} (e_a1 : a1' = iz a1) (e_m_state : m_state' = az m_state) (e_m_far : m_far' = az m_far) {post0 : (Nat → Int32) → Prop} {post : (Nat → Int) → Prop} (hv : iv_X5_layFar a1 m_state m_far post) (hp : ∀ (u : (Nat → Int)) (y : (Nat → Int32)), post u → y = az u → post0 y) : vc_X5_layFar a1' m_state' m_far' post0 := by
  subst e_a1
  subst e_m_state
  subst e_m_far
  rw [iv_X5_layFar] at hv
  rw [vc_X5_layFar]
  obtain ⟨n_94, hv⟩ := hv
  refine ⟨n_94, lift_X5_layFar_L2 (by first | with_reducible rfl | simp only [zl, iz_add, iz_sub, iz_mul, iz_neg]) (fun y_95 m_far_19 hv ey_96 => ?_)  n_94 _ _ 0 m_far (by first | with_reducible rfl | simp only [zl, iz_add, iz_sub, iz_mul, iz_neg]) (by first | with_reducible rfl | simp only [zl, iz_add, iz_sub, iz_mul, iz_neg]) hv⟩
  subst ey_96
  obtain ⟨n_91, hv⟩ := hv
  refine ⟨n_91, lift_X5_layFar_L37 (by first | with_reducible rfl | simp only [zl, iz_add, iz_sub, iz_mul, iz_neg]) (by first | with_reducible rfl | simp only [zl, iz_add, iz_sub, iz_mul, iz_neg]) (fun y_92 m_far_90 hv ey_93 => ?_)  n_91 _ _ 0 m_far_19 (by first | with_reducible rfl | simp only [zl, iz_add, iz_sub, iz_mul, iz_neg]) (by first | with_reducible rfl | simp only [zl, iz_add, iz_sub, iz_mul, iz_neg]) hv⟩
  subst ey_93
  exact hp _ _ hv (by first | with_reducible rfl | simp only [zl, iz_add, iz_sub, iz_mul, iz_neg])

def iv_X5_rushBy_L11 (K : Int → Prop) (b1 : Int) (b2 : Int) (m_state : (Nat → Int)) (m_far : (Nat → Int)) : Nat → Int → Int → Int → Prop
  | 0, _, _, _ => False
  | n + 1, v3, v4, v5 =>
    (iv_X5_many m_state (fun (r_2 : Int) (u_1 : Unit) => ((sm r_2 ∧ sm v5) ∧ ((r_2 ≤ v5 → K v3) ∧ (¬ r_2 ≤ v5 → ((0 ≤ (28 + v5) ∧ (28 + v5) < 69) ∧ ((0 ≤ (m_state ((28 + v5)).toNat) ∧ (m_state ((28 + v5)).toNat) < 6) ∧ ((0 ≤ (48 + v5) ∧ (48 + v5) < 69) ∧ (∀ x6_15 : Int, x6_15 = ((m_far ((m_state ((28 + v5)).toNat)).toNat) + (m_state ((48 + v5)).toNat)) → ((0 ≤ (18 + v5) ∧ (18 + v5) < 69) ∧ ((sm (m_state ((18 + v5)).toNat) ∧ sm b1) ∧ ((¬ (m_state ((18 + v5)).toNat) = b1 → (∀ x5_21 : Int, x5_21 = v5 + 1 → iv_X5_rushBy_L11 K b1 b2 m_state m_far n v3 v4 x5_21)) ∧ ((m_state ((18 + v5)).toNat) = b1 → (iv_X5_isOpen v5 b2 m_state (fun (r_24 : Int) (u_23 : Unit) => ((sm r_24 ∧ sm 0) ∧ ((r_24 = 0 → (∀ x5_31 : Int, x5_31 = v5 + 1 → iv_X5_rushBy_L11 K b1 b2 m_state m_far n v3 v4 x5_31)) ∧ (¬ r_24 = 0 → ((sm v4 ∧ sm x6_15) ∧ ((v4 ≤ x6_15 → (∀ x5_35 : Int, x5_35 = v5 + 1 → iv_X5_rushBy_L11 K b1 b2 m_state m_far n v3 v4 x5_35)) ∧ (¬ v4 ≤ x6_15 → (∀ x5_37 : Int, x5_37 = v5 + 1 → iv_X5_rushBy_L11 K b1 b2 m_state m_far n v5 x6_15 x5_37))))))))))))))))))))))

set_option maxHeartbeats 4000000 in
theorem lift_X5_rushBy_L11 {K0 : Int32 → Prop} {K : Int → Prop} {b1' : Int32} {b1 : Int} {b2' : Int32} {b2 : Int} {m_state' : (Nat → Int32)} {m_state : (Nat → Int)} {m_far' : (Nat → Int32)} {m_far : (Nat → Int)} (e_b1 : b1' = iz b1) (e_b2 : b2' = iz b2) (e_m_state : m_state' = az m_state) (e_m_far : m_far' = az m_far)  (hKx : ∀ (k3' : Int32) (k3 : Int), K k3 → k3' = iz k3 →  K0 k3') :
    ∀ (n : Nat) (v3' : Int32) (v4' : Int32) (v5' : Int32) (v3 : Int) (v4 : Int) (v5 : Int) (e_v3 : v3' = iz v3) (e_v4 : v4' = iz v4) (e_v5 : v5' = iz v5), iv_X5_rushBy_L11 K b1 b2 m_state m_far n v3 v4 v5 → vc_X5_rushBy_L11 K0 b1' b2' m_state' m_far' n v3' v4' v5' := by
  subst e_b1
  subst e_b2
  subst e_m_state
  subst e_m_far
  intro n
  induction n with
  | zero =>
    intro v3' v4' v5' v3 v4 v5 e_v3 e_v4 e_v5 hv
    exact False.elim hv
  | succ n ih =>
    intro v3' v4' v5' v3 v4 v5 e_v3 e_v4 e_v5 hv
    subst e_v3
    subst e_v4
    subst e_v5
    rw [iv_X5_rushBy_L11] at hv
    rw [vc_X5_rushBy_L11]
    refine lift_X5_many (by first | with_reducible rfl | simp only [zl, iz_add, iz_sub, iz_mul, iz_neg]) hv (fun r_2 u_1 y_3 y_4 hv er_5 eu_6 => ?_)
    subst er_5; subst eu_6
    try dsimp only
    obtain ⟨hs_7, hv⟩ := hv
    have q_8 := z_le (x := (iz r_2)) (a := r_2) (by first | with_reducible rfl | simp only [zl, iz_add, iz_sub, iz_mul, iz_neg]) (y := (iz v5)) (b := v5) (by first | with_reducible rfl | simp only [zl, iz_add, iz_sub, iz_mul, iz_neg]) hs_7.1 hs_7.2
    refine ⟨fun c9 => ?_, fun c9 => ?_⟩
    · have hv := hv.1 (q_8.mp c9)
      exact hKx _ v3 hv (by first | with_reducible rfl | simp only [zl, iz_add, iz_sub, iz_mul, iz_neg])
    · have hv := hv.2 (fun z9 => c9 (q_8.mpr z9))
      obtain ⟨hi_9, hv⟩ := hv
      refine ⟨z_in (by first | with_reducible rfl | simp only [zl, iz_add, iz_sub, iz_mul, iz_neg]) hi_9 (by decide), ?_⟩
      have e_10 : ((az m_state) ((28 + (iz v5))).toNatClampNeg) = iz (m_state ((28 + v5)).toNat) := z_at (by first | with_reducible rfl | simp only [zl, iz_add, iz_sub, iz_mul, iz_neg]) (by first | with_reducible rfl | simp only [zl, iz_add, iz_sub, iz_mul, iz_neg]) hi_9 (by decide)
      try rw [e_10]
      obtain ⟨hi_11, hv⟩ := hv
      refine ⟨z_in (by first | with_reducible rfl | simp only [zl, iz_add, iz_sub, iz_mul, iz_neg]) hi_11 (by decide), ?_⟩
      have e_12 : ((az m_far) ((iz (m_state ((28 + v5)).toNat))).toNatClampNeg) = iz (m_far ((m_state ((28 + v5)).toNat)).toNat) := z_at (by first | with_reducible rfl | simp only [zl, iz_add, iz_sub, iz_mul, iz_neg]) (by first | with_reducible rfl | simp only [zl, iz_add, iz_sub, iz_mul, iz_neg]) hi_11 (by decide)
      try rw [e_12]
      obtain ⟨hi_13, hv⟩ := hv
      refine ⟨z_in (by first | with_reducible rfl | simp only [zl, iz_add, iz_sub, iz_mul, iz_neg]) hi_13 (by decide), ?_⟩
      have e_14 : ((az m_state) ((48 + (iz v5))).toNatClampNeg) = iz (m_state ((48 + v5)).toNat) := z_at (by first | with_reducible rfl | simp only [zl, iz_add, iz_sub, iz_mul, iz_neg]) (by first | with_reducible rfl | simp only [zl, iz_add, iz_sub, iz_mul, iz_neg]) hi_13 (by decide)
      try rw [e_14]
      intro y_16 hy_16
      obtain ⟨x6_15, hx6_15⟩ : ∃ z : Int, z = ((m_far ((m_state ((28 + v5)).toNat)).toNat) + (m_state ((48 + v5)).toNat)) := ⟨_, rfl⟩
      have hv := hv x6_15 hx6_15
      have ey_16 : y_16 = iz x6_15 := by rw [hy_16, hx6_15]; try exact (by first | with_reducible rfl | simp only [zl, iz_add, iz_sub, iz_mul, iz_neg])
      subst ey_16
      obtain ⟨hi_17, hv⟩ := hv
      refine ⟨z_in (by first | with_reducible rfl | simp only [zl, iz_add, iz_sub, iz_mul, iz_neg]) hi_17 (by decide), ?_⟩
      have e_18 : ((az m_state) ((18 + (iz v5))).toNatClampNeg) = iz (m_state ((18 + v5)).toNat) := z_at (by first | with_reducible rfl | simp only [zl, iz_add, iz_sub, iz_mul, iz_neg]) (by first | with_reducible rfl | simp only [zl, iz_add, iz_sub, iz_mul, iz_neg]) hi_17 (by decide)
      try rw [e_18]
      obtain ⟨hs_19, hv⟩ := hv
      have q_20 := z_eq (x := (iz (m_state ((18 + v5)).toNat))) (a := (m_state ((18 + v5)).toNat)) (by first | with_reducible rfl | simp only [zl, iz_add, iz_sub, iz_mul, iz_neg]) (y := (iz b1)) (b := b1) (by first | with_reducible rfl | simp only [zl, iz_add, iz_sub, iz_mul, iz_neg]) hs_19.1 hs_19.2
      refine ⟨fun c9 => ?_, fun c9 => ?_⟩
      · have hv := hv.1 (fun z9 => c9 (q_20.mpr z9))
        intro y_22 hy_22
        obtain ⟨x5_21, hx5_21⟩ : ∃ z : Int, z = v5 + 1 := ⟨_, rfl⟩
        have hv := hv x5_21 hx5_21
        have ey_22 : y_22 = iz x5_21 := by rw [hy_22, hx5_21]; try exact (by first | with_reducible rfl | simp only [zl, iz_add, iz_sub, iz_mul, iz_neg])
        subst ey_22
        exact ih _ _ _ v3 v4 x5_21 (by first | with_reducible rfl | simp only [zl, iz_add, iz_sub, iz_mul, iz_neg]) (by first | with_reducible rfl | simp only [zl, iz_add, iz_sub, iz_mul, iz_neg]) (by first | with_reducible rfl | simp only [zl, iz_add, iz_sub, iz_mul, iz_neg]) hv
      · have hv := hv.2 (q_20.mp c9)
        refine lift_X5_isOpen (by first | with_reducible rfl | simp only [zl, iz_add, iz_sub, iz_mul, iz_neg]) (by first | with_reducible rfl | simp only [zl, iz_add, iz_sub, iz_mul, iz_neg]) (by first | with_reducible rfl | simp only [zl, iz_add, iz_sub, iz_mul, iz_neg]) hv (fun r_24 u_23 y_25 y_26 hv er_27 eu_28 => ?_)
        subst er_27; subst eu_28
        try dsimp only
        obtain ⟨hs_29, hv⟩ := hv
        have q_30 := z_eq (x := (iz r_24)) (a := r_24) (by first | with_reducible rfl | simp only [zl, iz_add, iz_sub, iz_mul, iz_neg]) (y := 0) (b := 0) (by first | with_reducible rfl | simp only [zl, iz_add, iz_sub, iz_mul, iz_neg]) hs_29.1 hs_29.2
        refine ⟨fun c9 => ?_, fun c9 => ?_⟩
        · have hv := hv.1 (q_30.mp c9)
          intro y_32 hy_32
          obtain ⟨x5_31, hx5_31⟩ : ∃ z : Int, z = v5 + 1 := ⟨_, rfl⟩
          have hv := hv x5_31 hx5_31
          have ey_32 : y_32 = iz x5_31 := by rw [hy_32, hx5_31]; try exact (by first | with_reducible rfl | simp only [zl, iz_add, iz_sub, iz_mul, iz_neg])
          subst ey_32
          exact ih _ _ _ v3 v4 x5_31 (by first | with_reducible rfl | simp only [zl, iz_add, iz_sub, iz_mul, iz_neg]) (by first | with_reducible rfl | simp only [zl, iz_add, iz_sub, iz_mul, iz_neg]) (by first | with_reducible rfl | simp only [zl, iz_add, iz_sub, iz_mul, iz_neg]) hv
        · have hv := hv.2 (fun z9 => c9 (q_30.mpr z9))
          obtain ⟨hs_33, hv⟩ := hv
          have q_34 := z_le (x := (iz v4)) (a := v4) (by first | with_reducible rfl | simp only [zl, iz_add, iz_sub, iz_mul, iz_neg]) (y := (iz x6_15)) (b := x6_15) (by first | with_reducible rfl | simp only [zl, iz_add, iz_sub, iz_mul, iz_neg]) hs_33.1 hs_33.2
          refine ⟨fun c9 => ?_, fun c9 => ?_⟩
          · have hv := hv.1 (q_34.mp c9)
            intro y_36 hy_36
            obtain ⟨x5_35, hx5_35⟩ : ∃ z : Int, z = v5 + 1 := ⟨_, rfl⟩
            have hv := hv x5_35 hx5_35
            have ey_36 : y_36 = iz x5_35 := by rw [hy_36, hx5_35]; try exact (by first | with_reducible rfl | simp only [zl, iz_add, iz_sub, iz_mul, iz_neg])
            subst ey_36
            exact ih _ _ _ v3 v4 x5_35 (by first | with_reducible rfl | simp only [zl, iz_add, iz_sub, iz_mul, iz_neg]) (by first | with_reducible rfl | simp only [zl, iz_add, iz_sub, iz_mul, iz_neg]) (by first | with_reducible rfl | simp only [zl, iz_add, iz_sub, iz_mul, iz_neg]) hv
          · have hv := hv.2 (fun z9 => c9 (q_34.mpr z9))
            intro y_38 hy_38
            obtain ⟨x5_37, hx5_37⟩ : ∃ z : Int, z = v5 + 1 := ⟨_, rfl⟩
            have hv := hv x5_37 hx5_37
            have ey_38 : y_38 = iz x5_37 := by rw [hy_38, hx5_37]; try exact (by first | with_reducible rfl | simp only [zl, iz_add, iz_sub, iz_mul, iz_neg])
            subst ey_38
            exact ih _ _ _ v5 x6_15 x5_37 (by first | with_reducible rfl | simp only [zl, iz_add, iz_sub, iz_mul, iz_neg]) (by first | with_reducible rfl | simp only [zl, iz_add, iz_sub, iz_mul, iz_neg]) (by first | with_reducible rfl | simp only [zl, iz_add, iz_sub, iz_mul, iz_neg]) hv

def iv_X5_rushBy (a1 : Int) (a2 : Int) (m_state : (Nat → Int)) (m_far : (Nat → Int)) (post : Int → Unit → Prop) : Prop :=
  (∃ n_40, iv_X5_rushBy_L11 (fun k3_39 => post k3_39 ())  a1 a2 m_state m_far n_40 (-6) 1000 0)

set_option maxHeartbeats 4000000 in
theorem lift_X5_rushBy {a1' : Int32} {a1 : Int} {a2' : Int32} {a2 : Int} {m_state' : (Nat → Int32)} {m_state : (Nat → Int)} {m_far' : (Nat → Int32)} {m_far : (Nat → Int)} (e_a1 : a1' = iz a1) (e_a2 : a2' = iz a2) (e_m_state : m_state' = az m_state) (e_m_far : m_far' = az m_far) {post0 : Int32 → Unit → Prop} {post : Int → Unit → Prop} (hv : iv_X5_rushBy a1 a2 m_state m_far post) (hp : ∀ (r : Int) (u : Unit) (x : Int32) (y : Unit), post r u → x = iz r → y = () → post0 x y) : vc_X5_rushBy a1' a2' m_state' m_far' post0 := by
  subst e_a1
  subst e_a2
  subst e_m_state
  subst e_m_far
  rw [iv_X5_rushBy] at hv
  rw [vc_X5_rushBy]
  obtain ⟨n_40, hv⟩ := hv
  refine ⟨n_40, lift_X5_rushBy_L11 (by first | with_reducible rfl | simp only [zl, iz_add, iz_sub, iz_mul, iz_neg]) (by first | with_reducible rfl | simp only [zl, iz_add, iz_sub, iz_mul, iz_neg]) (by first | with_reducible rfl | simp only [zl, iz_add, iz_sub, iz_mul, iz_neg]) (by first | with_reducible rfl | simp only [zl, iz_add, iz_sub, iz_mul, iz_neg]) (fun y_41 k3_39 hv ey_42 => ?_)  n_40 _ _ _ (-6) 1000 0 (by first | with_reducible rfl | simp only [zl, iz_add, iz_sub, iz_mul, iz_neg]) (by first | with_reducible rfl | simp only [zl, iz_add, iz_sub, iz_mul, iz_neg]) (by first | with_reducible rfl | simp only [zl, iz_add, iz_sub, iz_mul, iz_neg]) hv⟩
  subst ey_42
  exact hp _ _ _ _ hv (by first | with_reducible rfl | simp only [zl, iz_add, iz_sub, iz_mul, iz_neg]) (by first | with_reducible rfl | simp only [zl, iz_add, iz_sub, iz_mul, iz_neg])

def iv_X5_rushTick_L2 (K : (Nat → Int) → (Nat → Int) → Prop) (b1 : Int) : Nat → Int → (Nat → Int) → (Nat → Int) → Prop
  | 0, _, _, _ => False
  | n + 1, v2, m_here, m_coming =>
    ((sm 6 ∧ sm v2) ∧ ((6 ≤ v2 → K m_here m_coming) ∧ (¬ 6 ≤ v2 → ((0 ≤ v2 ∧ v2 < 6) ∧ ((zn b1) ∧ ((0 ≤ ((5 * v2) + (b1 - b1 / 5 * 5)) ∧ ((5 * v2) + (b1 - b1 / 5 * 5)) < 30) ∧ ((0 ≤ v2 ∧ v2 < 6) ∧ ((zn b1) ∧ ((0 ≤ ((5 * v2) + (b1 - b1 / 5 * 5)) ∧ ((5 * v2) + (b1 - b1 / 5 * 5)) < 30) ∧ (∀ x2_15 : Int, x2_15 = v2 + 1 → iv_X5_rushTick_L2 K b1 n x2_15 (uz m_here v2.toNat ((m_here v2.toNat) + (m_coming (((5 * v2) + (b1 - b1 / 5 * 5))).toNat))) (uz m_coming (((5 * v2) + (b1 - b1 / 5 * 5))).toNat 0)))))))))))

set_option maxHeartbeats 4000000 in
theorem lift_X5_rushTick_L2 {K0 : (Nat → Int32) → (Nat → Int32) → Prop} {K : (Nat → Int) → (Nat → Int) → Prop} {b1' : Int32} {b1 : Int} (e_b1 : b1' = iz b1)  (hKx : ∀ (k_m_here' : (Nat → Int32)) (k_m_coming' : (Nat → Int32)) (k_m_here : (Nat → Int)) (k_m_coming : (Nat → Int)), K k_m_here k_m_coming → k_m_here' = az k_m_here → k_m_coming' = az k_m_coming →  K0 k_m_here' k_m_coming') :
    ∀ (n : Nat) (v2' : Int32) (m_here' : (Nat → Int32)) (m_coming' : (Nat → Int32)) (v2 : Int) (m_here : (Nat → Int)) (m_coming : (Nat → Int)) (e_v2 : v2' = iz v2) (e_m_here : m_here' = az m_here) (e_m_coming : m_coming' = az m_coming), iv_X5_rushTick_L2 K b1 n v2 m_here m_coming → vc_X5_rushTick_L2 K0 b1' n v2' m_here' m_coming' := by
  subst e_b1
  intro n
  induction n with
  | zero =>
    intro v2' m_here' m_coming' v2 m_here m_coming e_v2 e_m_here e_m_coming hv
    exact False.elim hv
  | succ n ih =>
    intro v2' m_here' m_coming' v2 m_here m_coming e_v2 e_m_here e_m_coming hv
    subst e_v2
    subst e_m_here
    subst e_m_coming
    rw [iv_X5_rushTick_L2] at hv
    rw [vc_X5_rushTick_L2]
    obtain ⟨hs_1, hv⟩ := hv
    have q_2 := z_le (x := 6) (a := 6) (by first | with_reducible rfl | simp only [zl, iz_add, iz_sub, iz_mul, iz_neg]) (y := (iz v2)) (b := v2) (by first | with_reducible rfl | simp only [zl, iz_add, iz_sub, iz_mul, iz_neg]) hs_1.1 hs_1.2
    refine ⟨fun c9 => ?_, fun c9 => ?_⟩
    · have hv := hv.1 (q_2.mp c9)
      exact hKx _ _ m_here m_coming hv (by first | with_reducible rfl | simp only [zl, iz_add, iz_sub, iz_mul, iz_neg]) (by first | with_reducible rfl | simp only [zl, iz_add, iz_sub, iz_mul, iz_neg])
    · have hv := hv.2 (fun z9 => c9 (q_2.mpr z9))
      obtain ⟨hi_3, hv⟩ := hv
      refine ⟨z_in (by first | with_reducible rfl | simp only [zl, iz_add, iz_sub, iz_mul, iz_neg]) hi_3 (by decide), ?_⟩
      have e_4 : ((az m_here) ((iz v2)).toNatClampNeg) = iz (m_here v2.toNat) := z_at (by first | with_reducible rfl | simp only [zl, iz_add, iz_sub, iz_mul, iz_neg]) (by first | with_reducible rfl | simp only [zl, iz_add, iz_sub, iz_mul, iz_neg]) hi_3 (by decide)
      try rw [e_4]
      obtain ⟨hc_5, hv⟩ := hv
      have e_6 : ((iz b1) - (iz b1) / 5 * 5) = iz (b1 - b1 / 5 * 5) := z_rem (by first | with_reducible rfl | simp only [zl, iz_add, iz_sub, iz_mul, iz_neg]) hc_5 (by decide) (by decide)
      try rw [e_6]
      obtain ⟨hi_7, hv⟩ := hv
      refine ⟨z_in (by first | with_reducible rfl | simp only [zl, iz_add, iz_sub, iz_mul, iz_neg]) hi_7 (by decide), ?_⟩
      have e_8 : ((az m_coming) (((5 * (iz v2)) + (iz (b1 - b1 / 5 * 5)))).toNatClampNeg) = iz (m_coming (((5 * v2) + (b1 - b1 / 5 * 5))).toNat) := z_at (by first | with_reducible rfl | simp only [zl, iz_add, iz_sub, iz_mul, iz_neg]) (by first | with_reducible rfl | simp only [zl, iz_add, iz_sub, iz_mul, iz_neg]) hi_7 (by decide)
      try rw [e_8]
      obtain ⟨hi_9, hv⟩ := hv
      refine ⟨z_in (by first | with_reducible rfl | simp only [zl, iz_add, iz_sub, iz_mul, iz_neg]) hi_9 (by decide), ?_⟩
      have e_10 : (upd (az m_here) ((iz v2)).toNatClampNeg ((iz (m_here v2.toNat)) + (iz (m_coming (((5 * v2) + (b1 - b1 / 5 * 5))).toNat)))) = az (uz m_here v2.toNat ((m_here v2.toNat) + (m_coming (((5 * v2) + (b1 - b1 / 5 * 5))).toNat))) := z_upd (by first | with_reducible rfl | simp only [zl, iz_add, iz_sub, iz_mul, iz_neg]) (by first | with_reducible rfl | simp only [zl, iz_add, iz_sub, iz_mul, iz_neg]) (by first | with_reducible rfl | simp only [zl, iz_add, iz_sub, iz_mul, iz_neg]) hi_9 (by decide)
      try rw [e_10]
      obtain ⟨hc_11, hv⟩ := hv
      have e_12 : ((iz b1) - (iz b1) / 5 * 5) = iz (b1 - b1 / 5 * 5) := z_rem (by first | with_reducible rfl | simp only [zl, iz_add, iz_sub, iz_mul, iz_neg]) hc_11 (by decide) (by decide)
      try rw [e_12]
      obtain ⟨hi_13, hv⟩ := hv
      refine ⟨z_in (by first | with_reducible rfl | simp only [zl, iz_add, iz_sub, iz_mul, iz_neg]) hi_13 (by decide), ?_⟩
      have e_14 : (upd (az m_coming) (((5 * (iz v2)) + (iz (b1 - b1 / 5 * 5)))).toNatClampNeg 0) = az (uz m_coming (((5 * v2) + (b1 - b1 / 5 * 5))).toNat 0) := z_upd (by first | with_reducible rfl | simp only [zl, iz_add, iz_sub, iz_mul, iz_neg]) (by first | with_reducible rfl | simp only [zl, iz_add, iz_sub, iz_mul, iz_neg]) (by first | with_reducible rfl | simp only [zl, iz_add, iz_sub, iz_mul, iz_neg]) hi_13 (by decide)
      try rw [e_14]
      intro y_16 hy_16
      obtain ⟨x2_15, hx2_15⟩ : ∃ z : Int, z = v2 + 1 := ⟨_, rfl⟩
      have hv := hv x2_15 hx2_15
      have ey_16 : y_16 = iz x2_15 := by rw [hy_16, hx2_15]; try exact (by first | with_reducible rfl | simp only [zl, iz_add, iz_sub, iz_mul, iz_neg])
      subst ey_16
      exact ih _ _ _ x2_15 (uz m_here v2.toNat ((m_here v2.toNat) + (m_coming (((5 * v2) + (b1 - b1 / 5 * 5))).toNat))) (uz m_coming (((5 * v2) + (b1 - b1 / 5 * 5))).toNat 0) (by first | with_reducible rfl | simp only [zl, iz_add, iz_sub, iz_mul, iz_neg]) (by first | with_reducible rfl | simp only [zl, iz_add, iz_sub, iz_mul, iz_neg]) (by first | with_reducible rfl | simp only [zl, iz_add, iz_sub, iz_mul, iz_neg]) hv

def iv_X5_rushTick_L55 (K : (Nat → Int) → (Nat → Int) → Prop) (b1 : Int) (m_state : (Nat → Int)) (m_far : (Nat → Int)) : Nat → Int → (Nat → Int) → (Nat → Int) → Prop
  | 0, _, _, _ => False
  | n + 1, v2, m_here, m_coming =>
    ((sm 6 ∧ sm v2) ∧ ((6 ≤ v2 → K m_here m_coming) ∧ (¬ 6 ≤ v2 → (iv_X5_isSafe v2 m_state (fun (r_27 : Int) (u_26 : Unit) => ((sm r_27 ∧ sm 0) ∧ ((r_27 = 0 → (iv_X5_rushBy v2 b1 m_state m_far (fun (r_35 : Int) (u_34 : Unit) => ((sm r_35 ∧ sm 0) ∧ ((r_35 < 0 → (∀ x2_42 : Int, x2_42 = v2 + 1 → iv_X5_rushTick_L55 K b1 m_state m_far n x2_42 m_here m_coming)) ∧ (¬ r_35 < 0 → ((0 ≤ v2 ∧ v2 < 6) ∧ ((0 ≤ (38 + r_35) ∧ (38 + r_35) < 69) ∧ ((sm (m_state ((38 + r_35)).toNat) ∧ sm (m_here v2.toNat)) ∧ (((m_state ((38 + r_35)).toNat) ≤ (m_here v2.toNat) → ((0 ≤ (38 + r_35) ∧ (38 + r_35) < 69) ∧ (∀ x4_52 : Int, x4_52 = (m_state ((38 + r_35)).toNat) → ((0 ≤ v2 ∧ v2 < 6) ∧ ((0 ≤ v2 ∧ v2 < 6) ∧ ((0 ≤ (28 + r_35) ∧ (28 + r_35) < 69) ∧ ((0 ≤ (48 + r_35) ∧ (48 + r_35) < 69) ∧ ((zn (b1 + (m_state ((48 + r_35)).toNat))) ∧ ((0 ≤ ((5 * (m_state ((28 + r_35)).toNat)) + ((b1 + (m_state ((48 + r_35)).toNat)) - (b1 + (m_state ((48 + r_35)).toNat)) / 5 * 5)) ∧ ((5 * (m_state ((28 + r_35)).toNat)) + ((b1 + (m_state ((48 + r_35)).toNat)) - (b1 + (m_state ((48 + r_35)).toNat)) / 5 * 5)) < 30) ∧ ((0 ≤ ((5 * (m_state ((28 + r_35)).toNat)) + ((b1 + (m_state ((48 + r_35)).toNat)) - (b1 + (m_state ((48 + r_35)).toNat)) / 5 * 5)) ∧ ((5 * (m_state ((28 + r_35)).toNat)) + ((b1 + (m_state ((48 + r_35)).toNat)) - (b1 + (m_state ((48 + r_35)).toNat)) / 5 * 5)) < 30) ∧ (∀ x2_68 : Int, x2_68 = v2 + 1 → iv_X5_rushTick_L55 K b1 m_state m_far n x2_68 (uz m_here v2.toNat ((m_here v2.toNat) - x4_52)) (uz m_coming (((5 * (m_state ((28 + r_35)).toNat)) + ((b1 + (m_state ((48 + r_35)).toNat)) - (b1 + (m_state ((48 + r_35)).toNat)) / 5 * 5))).toNat ((m_coming (((5 * (m_state ((28 + r_35)).toNat)) + ((b1 + (m_state ((48 + r_35)).toNat)) - (b1 + (m_state ((48 + r_35)).toNat)) / 5 * 5))).toNat) + x4_52))))))))))))) ∧ (¬ (m_state ((38 + r_35)).toNat) ≤ (m_here v2.toNat) → ((0 ≤ v2 ∧ v2 < 6) ∧ (∀ x4_72 : Int, x4_72 = (m_here v2.toNat) → ((0 ≤ v2 ∧ v2 < 6) ∧ ((0 ≤ v2 ∧ v2 < 6) ∧ ((0 ≤ (28 + r_35) ∧ (28 + r_35) < 69) ∧ ((0 ≤ (48 + r_35) ∧ (48 + r_35) < 69) ∧ ((zn (b1 + (m_state ((48 + r_35)).toNat))) ∧ ((0 ≤ ((5 * (m_state ((28 + r_35)).toNat)) + ((b1 + (m_state ((48 + r_35)).toNat)) - (b1 + (m_state ((48 + r_35)).toNat)) / 5 * 5)) ∧ ((5 * (m_state ((28 + r_35)).toNat)) + ((b1 + (m_state ((48 + r_35)).toNat)) - (b1 + (m_state ((48 + r_35)).toNat)) / 5 * 5)) < 30) ∧ ((0 ≤ ((5 * (m_state ((28 + r_35)).toNat)) + ((b1 + (m_state ((48 + r_35)).toNat)) - (b1 + (m_state ((48 + r_35)).toNat)) / 5 * 5)) ∧ ((5 * (m_state ((28 + r_35)).toNat)) + ((b1 + (m_state ((48 + r_35)).toNat)) - (b1 + (m_state ((48 + r_35)).toNat)) / 5 * 5)) < 30) ∧ (∀ x2_88 : Int, x2_88 = v2 + 1 → iv_X5_rushTick_L55 K b1 m_state m_far n x2_88 (uz m_here v2.toNat ((m_here v2.toNat) - x4_72)) (uz m_coming (((5 * (m_state ((28 + r_35)).toNat)) + ((b1 + (m_state ((48 + r_35)).toNat)) - (b1 + (m_state ((48 + r_35)).toNat)) / 5 * 5))).toNat ((m_coming (((5 * (m_state ((28 + r_35)).toNat)) + ((b1 + (m_state ((48 + r_35)).toNat)) - (b1 + (m_state ((48 + r_35)).toNat)) / 5 * 5))).toNat) + x4_72))))))))))))))))))))))) ∧ (¬ r_27 = 0 → (∀ x2_90 : Int, x2_90 = v2 + 1 → iv_X5_rushTick_L55 K b1 m_state m_far n x2_90 m_here m_coming)))))))))

set_option maxHeartbeats 4000000 in
theorem lift_X5_rushTick_L55 {K0 : (Nat → Int32) → (Nat → Int32) → Prop} {K : (Nat → Int) → (Nat → Int) → Prop} {b1' : Int32} {b1 : Int} {m_state' : (Nat → Int32)} {m_state : (Nat → Int)} {m_far' : (Nat → Int32)} {m_far : (Nat → Int)} (e_b1 : b1' = iz b1) (e_m_state : m_state' = az m_state) (e_m_far : m_far' = az m_far)  (hKx : ∀ (k_m_here' : (Nat → Int32)) (k_m_coming' : (Nat → Int32)) (k_m_here : (Nat → Int)) (k_m_coming : (Nat → Int)), K k_m_here k_m_coming → k_m_here' = az k_m_here → k_m_coming' = az k_m_coming →  K0 k_m_here' k_m_coming') :
    ∀ (n : Nat) (v2' : Int32) (m_here' : (Nat → Int32)) (m_coming' : (Nat → Int32)) (v2 : Int) (m_here : (Nat → Int)) (m_coming : (Nat → Int)) (e_v2 : v2' = iz v2) (e_m_here : m_here' = az m_here) (e_m_coming : m_coming' = az m_coming), iv_X5_rushTick_L55 K b1 m_state m_far n v2 m_here m_coming → vc_X5_rushTick_L55 K0 b1' m_state' m_far' n v2' m_here' m_coming' := by
  subst e_b1
  subst e_m_state
  subst e_m_far
  intro n
  induction n with
  | zero =>
    intro v2' m_here' m_coming' v2 m_here m_coming e_v2 e_m_here e_m_coming hv
    exact False.elim hv
  | succ n ih =>
    intro v2' m_here' m_coming' v2 m_here m_coming e_v2 e_m_here e_m_coming hv
    subst e_v2
    subst e_m_here
    subst e_m_coming
    rw [iv_X5_rushTick_L55] at hv
    rw [vc_X5_rushTick_L55]
    obtain ⟨hs_24, hv⟩ := hv
    have q_25 := z_le (x := 6) (a := 6) (by first | with_reducible rfl | simp only [zl, iz_add, iz_sub, iz_mul, iz_neg]) (y := (iz v2)) (b := v2) (by first | with_reducible rfl | simp only [zl, iz_add, iz_sub, iz_mul, iz_neg]) hs_24.1 hs_24.2
    refine ⟨fun c9 => ?_, fun c9 => ?_⟩
    · have hv := hv.1 (q_25.mp c9)
      exact hKx _ _ m_here m_coming hv (by first | with_reducible rfl | simp only [zl, iz_add, iz_sub, iz_mul, iz_neg]) (by first | with_reducible rfl | simp only [zl, iz_add, iz_sub, iz_mul, iz_neg])
    · have hv := hv.2 (fun z9 => c9 (q_25.mpr z9))
      refine lift_X5_isSafe (by first | with_reducible rfl | simp only [zl, iz_add, iz_sub, iz_mul, iz_neg]) (by first | with_reducible rfl | simp only [zl, iz_add, iz_sub, iz_mul, iz_neg]) hv (fun r_27 u_26 y_28 y_29 hv er_30 eu_31 => ?_)
      subst er_30; subst eu_31
      try dsimp only
      obtain ⟨hs_32, hv⟩ := hv
      have q_33 := z_eq (x := (iz r_27)) (a := r_27) (by first | with_reducible rfl | simp only [zl, iz_add, iz_sub, iz_mul, iz_neg]) (y := 0) (b := 0) (by first | with_reducible rfl | simp only [zl, iz_add, iz_sub, iz_mul, iz_neg]) hs_32.1 hs_32.2
      refine ⟨fun c9 => ?_, fun c9 => ?_⟩
      · have hv := hv.1 (q_33.mp c9)
        refine lift_X5_rushBy (by first | with_reducible rfl | simp only [zl, iz_add, iz_sub, iz_mul, iz_neg]) (by first | with_reducible rfl | simp only [zl, iz_add, iz_sub, iz_mul, iz_neg]) (by first | with_reducible rfl | simp only [zl, iz_add, iz_sub, iz_mul, iz_neg]) (by first | with_reducible rfl | simp only [zl, iz_add, iz_sub, iz_mul, iz_neg]) hv (fun r_35 u_34 y_36 y_37 hv er_38 eu_39 => ?_)
        subst er_38; subst eu_39
        try dsimp only
        obtain ⟨hs_40, hv⟩ := hv
        have q_41 := z_lt (x := (iz r_35)) (a := r_35) (by first | with_reducible rfl | simp only [zl, iz_add, iz_sub, iz_mul, iz_neg]) (y := 0) (b := 0) (by first | with_reducible rfl | simp only [zl, iz_add, iz_sub, iz_mul, iz_neg]) hs_40.1 hs_40.2
        refine ⟨fun c9 => ?_, fun c9 => ?_⟩
        · have hv := hv.1 (q_41.mp c9)
          intro y_43 hy_43
          obtain ⟨x2_42, hx2_42⟩ : ∃ z : Int, z = v2 + 1 := ⟨_, rfl⟩
          have hv := hv x2_42 hx2_42
          have ey_43 : y_43 = iz x2_42 := by rw [hy_43, hx2_42]; try exact (by first | with_reducible rfl | simp only [zl, iz_add, iz_sub, iz_mul, iz_neg])
          subst ey_43
          exact ih _ _ _ x2_42 m_here m_coming (by first | with_reducible rfl | simp only [zl, iz_add, iz_sub, iz_mul, iz_neg]) (by first | with_reducible rfl | simp only [zl, iz_add, iz_sub, iz_mul, iz_neg]) (by first | with_reducible rfl | simp only [zl, iz_add, iz_sub, iz_mul, iz_neg]) hv
        · have hv := hv.2 (fun z9 => c9 (q_41.mpr z9))
          obtain ⟨hi_44, hv⟩ := hv
          refine ⟨z_in (by first | with_reducible rfl | simp only [zl, iz_add, iz_sub, iz_mul, iz_neg]) hi_44 (by decide), ?_⟩
          have e_45 : ((az m_here) ((iz v2)).toNatClampNeg) = iz (m_here v2.toNat) := z_at (by first | with_reducible rfl | simp only [zl, iz_add, iz_sub, iz_mul, iz_neg]) (by first | with_reducible rfl | simp only [zl, iz_add, iz_sub, iz_mul, iz_neg]) hi_44 (by decide)
          try rw [e_45]
          obtain ⟨hi_46, hv⟩ := hv
          refine ⟨z_in (by first | with_reducible rfl | simp only [zl, iz_add, iz_sub, iz_mul, iz_neg]) hi_46 (by decide), ?_⟩
          have e_47 : ((az m_state) ((38 + (iz r_35))).toNatClampNeg) = iz (m_state ((38 + r_35)).toNat) := z_at (by first | with_reducible rfl | simp only [zl, iz_add, iz_sub, iz_mul, iz_neg]) (by first | with_reducible rfl | simp only [zl, iz_add, iz_sub, iz_mul, iz_neg]) hi_46 (by decide)
          try rw [e_47]
          obtain ⟨hs_48, hv⟩ := hv
          have q_49 := z_le (x := (iz (m_state ((38 + r_35)).toNat))) (a := (m_state ((38 + r_35)).toNat)) (by first | with_reducible rfl | simp only [zl, iz_add, iz_sub, iz_mul, iz_neg]) (y := (iz (m_here v2.toNat))) (b := (m_here v2.toNat)) (by first | with_reducible rfl | simp only [zl, iz_add, iz_sub, iz_mul, iz_neg]) hs_48.1 hs_48.2
          refine ⟨fun c9 => ?_, fun c9 => ?_⟩
          · have hv := hv.1 (q_49.mp c9)
            obtain ⟨hi_50, hv⟩ := hv
            refine ⟨z_in (by first | with_reducible rfl | simp only [zl, iz_add, iz_sub, iz_mul, iz_neg]) hi_50 (by decide), ?_⟩
            have e_51 : ((az m_state) ((38 + (iz r_35))).toNatClampNeg) = iz (m_state ((38 + r_35)).toNat) := z_at (by first | with_reducible rfl | simp only [zl, iz_add, iz_sub, iz_mul, iz_neg]) (by first | with_reducible rfl | simp only [zl, iz_add, iz_sub, iz_mul, iz_neg]) hi_50 (by decide)
            try rw [e_51]
            intro y_53 hy_53
            obtain ⟨x4_52, hx4_52⟩ : ∃ z : Int, z = (m_state ((38 + r_35)).toNat) := ⟨_, rfl⟩
            have hv := hv x4_52 hx4_52
            have ey_53 : y_53 = iz x4_52 := by rw [hy_53, hx4_52]; try exact (by first | with_reducible rfl | simp only [zl, iz_add, iz_sub, iz_mul, iz_neg])
            subst ey_53
            obtain ⟨hi_54, hv⟩ := hv
            refine ⟨z_in (by first | with_reducible rfl | simp only [zl, iz_add, iz_sub, iz_mul, iz_neg]) hi_54 (by decide), ?_⟩
            have e_55 : ((az m_here) ((iz v2)).toNatClampNeg) = iz (m_here v2.toNat) := z_at (by first | with_reducible rfl | simp only [zl, iz_add, iz_sub, iz_mul, iz_neg]) (by first | with_reducible rfl | simp only [zl, iz_add, iz_sub, iz_mul, iz_neg]) hi_54 (by decide)
            try rw [e_55]
            obtain ⟨hi_56, hv⟩ := hv
            refine ⟨z_in (by first | with_reducible rfl | simp only [zl, iz_add, iz_sub, iz_mul, iz_neg]) hi_56 (by decide), ?_⟩
            have e_57 : (upd (az m_here) ((iz v2)).toNatClampNeg ((iz (m_here v2.toNat)) - (iz x4_52))) = az (uz m_here v2.toNat ((m_here v2.toNat) - x4_52)) := z_upd (by first | with_reducible rfl | simp only [zl, iz_add, iz_sub, iz_mul, iz_neg]) (by first | with_reducible rfl | simp only [zl, iz_add, iz_sub, iz_mul, iz_neg]) (by first | with_reducible rfl | simp only [zl, iz_add, iz_sub, iz_mul, iz_neg]) hi_56 (by decide)
            try rw [e_57]
            obtain ⟨hi_58, hv⟩ := hv
            refine ⟨z_in (by first | with_reducible rfl | simp only [zl, iz_add, iz_sub, iz_mul, iz_neg]) hi_58 (by decide), ?_⟩
            have e_59 : ((az m_state) ((28 + (iz r_35))).toNatClampNeg) = iz (m_state ((28 + r_35)).toNat) := z_at (by first | with_reducible rfl | simp only [zl, iz_add, iz_sub, iz_mul, iz_neg]) (by first | with_reducible rfl | simp only [zl, iz_add, iz_sub, iz_mul, iz_neg]) hi_58 (by decide)
            try rw [e_59]
            obtain ⟨hi_60, hv⟩ := hv
            refine ⟨z_in (by first | with_reducible rfl | simp only [zl, iz_add, iz_sub, iz_mul, iz_neg]) hi_60 (by decide), ?_⟩
            have e_61 : ((az m_state) ((48 + (iz r_35))).toNatClampNeg) = iz (m_state ((48 + r_35)).toNat) := z_at (by first | with_reducible rfl | simp only [zl, iz_add, iz_sub, iz_mul, iz_neg]) (by first | with_reducible rfl | simp only [zl, iz_add, iz_sub, iz_mul, iz_neg]) hi_60 (by decide)
            try rw [e_61]
            obtain ⟨hc_62, hv⟩ := hv
            have e_63 : (((iz b1) + (iz (m_state ((48 + r_35)).toNat))) - ((iz b1) + (iz (m_state ((48 + r_35)).toNat))) / 5 * 5) = iz ((b1 + (m_state ((48 + r_35)).toNat)) - (b1 + (m_state ((48 + r_35)).toNat)) / 5 * 5) := z_rem (by first | with_reducible rfl | simp only [zl, iz_add, iz_sub, iz_mul, iz_neg]) hc_62 (by decide) (by decide)
            try rw [e_63]
            obtain ⟨hi_64, hv⟩ := hv
            refine ⟨z_in (by first | with_reducible rfl | simp only [zl, iz_add, iz_sub, iz_mul, iz_neg]) hi_64 (by decide), ?_⟩
            have e_65 : ((az m_coming) (((5 * (iz (m_state ((28 + r_35)).toNat))) + (iz ((b1 + (m_state ((48 + r_35)).toNat)) - (b1 + (m_state ((48 + r_35)).toNat)) / 5 * 5)))).toNatClampNeg) = iz (m_coming (((5 * (m_state ((28 + r_35)).toNat)) + ((b1 + (m_state ((48 + r_35)).toNat)) - (b1 + (m_state ((48 + r_35)).toNat)) / 5 * 5))).toNat) := z_at (by first | with_reducible rfl | simp only [zl, iz_add, iz_sub, iz_mul, iz_neg]) (by first | with_reducible rfl | simp only [zl, iz_add, iz_sub, iz_mul, iz_neg]) hi_64 (by decide)
            try rw [e_65]
            obtain ⟨hi_66, hv⟩ := hv
            refine ⟨z_in (by first | with_reducible rfl | simp only [zl, iz_add, iz_sub, iz_mul, iz_neg]) hi_66 (by decide), ?_⟩
            have e_67 : (upd (az m_coming) (((5 * (iz (m_state ((28 + r_35)).toNat))) + (iz ((b1 + (m_state ((48 + r_35)).toNat)) - (b1 + (m_state ((48 + r_35)).toNat)) / 5 * 5)))).toNatClampNeg ((iz (m_coming (((5 * (m_state ((28 + r_35)).toNat)) + ((b1 + (m_state ((48 + r_35)).toNat)) - (b1 + (m_state ((48 + r_35)).toNat)) / 5 * 5))).toNat)) + (iz x4_52))) = az (uz m_coming (((5 * (m_state ((28 + r_35)).toNat)) + ((b1 + (m_state ((48 + r_35)).toNat)) - (b1 + (m_state ((48 + r_35)).toNat)) / 5 * 5))).toNat ((m_coming (((5 * (m_state ((28 + r_35)).toNat)) + ((b1 + (m_state ((48 + r_35)).toNat)) - (b1 + (m_state ((48 + r_35)).toNat)) / 5 * 5))).toNat) + x4_52)) := z_upd (by first | with_reducible rfl | simp only [zl, iz_add, iz_sub, iz_mul, iz_neg]) (by first | with_reducible rfl | simp only [zl, iz_add, iz_sub, iz_mul, iz_neg]) (by first | with_reducible rfl | simp only [zl, iz_add, iz_sub, iz_mul, iz_neg]) hi_66 (by decide)
            try rw [e_67]
            intro y_69 hy_69
            obtain ⟨x2_68, hx2_68⟩ : ∃ z : Int, z = v2 + 1 := ⟨_, rfl⟩
            have hv := hv x2_68 hx2_68
            have ey_69 : y_69 = iz x2_68 := by rw [hy_69, hx2_68]; try exact (by first | with_reducible rfl | simp only [zl, iz_add, iz_sub, iz_mul, iz_neg])
            subst ey_69
            exact ih _ _ _ x2_68 (uz m_here v2.toNat ((m_here v2.toNat) - x4_52)) (uz m_coming (((5 * (m_state ((28 + r_35)).toNat)) + ((b1 + (m_state ((48 + r_35)).toNat)) - (b1 + (m_state ((48 + r_35)).toNat)) / 5 * 5))).toNat ((m_coming (((5 * (m_state ((28 + r_35)).toNat)) + ((b1 + (m_state ((48 + r_35)).toNat)) - (b1 + (m_state ((48 + r_35)).toNat)) / 5 * 5))).toNat) + x4_52)) (by first | with_reducible rfl | simp only [zl, iz_add, iz_sub, iz_mul, iz_neg]) (by first | with_reducible rfl | simp only [zl, iz_add, iz_sub, iz_mul, iz_neg]) (by first | with_reducible rfl | simp only [zl, iz_add, iz_sub, iz_mul, iz_neg]) hv
          · have hv := hv.2 (fun z9 => c9 (q_49.mpr z9))
            obtain ⟨hi_70, hv⟩ := hv
            refine ⟨z_in (by first | with_reducible rfl | simp only [zl, iz_add, iz_sub, iz_mul, iz_neg]) hi_70 (by decide), ?_⟩
            have e_71 : ((az m_here) ((iz v2)).toNatClampNeg) = iz (m_here v2.toNat) := z_at (by first | with_reducible rfl | simp only [zl, iz_add, iz_sub, iz_mul, iz_neg]) (by first | with_reducible rfl | simp only [zl, iz_add, iz_sub, iz_mul, iz_neg]) hi_70 (by decide)
            try rw [e_71]
            intro y_73 hy_73
            obtain ⟨x4_72, hx4_72⟩ : ∃ z : Int, z = (m_here v2.toNat) := ⟨_, rfl⟩
            have hv := hv x4_72 hx4_72
            have ey_73 : y_73 = iz x4_72 := by rw [hy_73, hx4_72]; try exact (by first | with_reducible rfl | simp only [zl, iz_add, iz_sub, iz_mul, iz_neg])
            subst ey_73
            obtain ⟨hi_74, hv⟩ := hv
            refine ⟨z_in (by first | with_reducible rfl | simp only [zl, iz_add, iz_sub, iz_mul, iz_neg]) hi_74 (by decide), ?_⟩
            have e_75 : ((az m_here) ((iz v2)).toNatClampNeg) = iz (m_here v2.toNat) := z_at (by first | with_reducible rfl | simp only [zl, iz_add, iz_sub, iz_mul, iz_neg]) (by first | with_reducible rfl | simp only [zl, iz_add, iz_sub, iz_mul, iz_neg]) hi_74 (by decide)
            try rw [e_75]
            obtain ⟨hi_76, hv⟩ := hv
            refine ⟨z_in (by first | with_reducible rfl | simp only [zl, iz_add, iz_sub, iz_mul, iz_neg]) hi_76 (by decide), ?_⟩
            have e_77 : (upd (az m_here) ((iz v2)).toNatClampNeg ((iz (m_here v2.toNat)) - (iz x4_72))) = az (uz m_here v2.toNat ((m_here v2.toNat) - x4_72)) := z_upd (by first | with_reducible rfl | simp only [zl, iz_add, iz_sub, iz_mul, iz_neg]) (by first | with_reducible rfl | simp only [zl, iz_add, iz_sub, iz_mul, iz_neg]) (by first | with_reducible rfl | simp only [zl, iz_add, iz_sub, iz_mul, iz_neg]) hi_76 (by decide)
            try rw [e_77]
            obtain ⟨hi_78, hv⟩ := hv
            refine ⟨z_in (by first | with_reducible rfl | simp only [zl, iz_add, iz_sub, iz_mul, iz_neg]) hi_78 (by decide), ?_⟩
            have e_79 : ((az m_state) ((28 + (iz r_35))).toNatClampNeg) = iz (m_state ((28 + r_35)).toNat) := z_at (by first | with_reducible rfl | simp only [zl, iz_add, iz_sub, iz_mul, iz_neg]) (by first | with_reducible rfl | simp only [zl, iz_add, iz_sub, iz_mul, iz_neg]) hi_78 (by decide)
            try rw [e_79]
            obtain ⟨hi_80, hv⟩ := hv
            refine ⟨z_in (by first | with_reducible rfl | simp only [zl, iz_add, iz_sub, iz_mul, iz_neg]) hi_80 (by decide), ?_⟩
            have e_81 : ((az m_state) ((48 + (iz r_35))).toNatClampNeg) = iz (m_state ((48 + r_35)).toNat) := z_at (by first | with_reducible rfl | simp only [zl, iz_add, iz_sub, iz_mul, iz_neg]) (by first | with_reducible rfl | simp only [zl, iz_add, iz_sub, iz_mul, iz_neg]) hi_80 (by decide)
            try rw [e_81]
            obtain ⟨hc_82, hv⟩ := hv
            have e_83 : (((iz b1) + (iz (m_state ((48 + r_35)).toNat))) - ((iz b1) + (iz (m_state ((48 + r_35)).toNat))) / 5 * 5) = iz ((b1 + (m_state ((48 + r_35)).toNat)) - (b1 + (m_state ((48 + r_35)).toNat)) / 5 * 5) := z_rem (by first | with_reducible rfl | simp only [zl, iz_add, iz_sub, iz_mul, iz_neg]) hc_82 (by decide) (by decide)
            try rw [e_83]
            obtain ⟨hi_84, hv⟩ := hv
            refine ⟨z_in (by first | with_reducible rfl | simp only [zl, iz_add, iz_sub, iz_mul, iz_neg]) hi_84 (by decide), ?_⟩
            have e_85 : ((az m_coming) (((5 * (iz (m_state ((28 + r_35)).toNat))) + (iz ((b1 + (m_state ((48 + r_35)).toNat)) - (b1 + (m_state ((48 + r_35)).toNat)) / 5 * 5)))).toNatClampNeg) = iz (m_coming (((5 * (m_state ((28 + r_35)).toNat)) + ((b1 + (m_state ((48 + r_35)).toNat)) - (b1 + (m_state ((48 + r_35)).toNat)) / 5 * 5))).toNat) := z_at (by first | with_reducible rfl | simp only [zl, iz_add, iz_sub, iz_mul, iz_neg]) (by first | with_reducible rfl | simp only [zl, iz_add, iz_sub, iz_mul, iz_neg]) hi_84 (by decide)
            try rw [e_85]
            obtain ⟨hi_86, hv⟩ := hv
            refine ⟨z_in (by first | with_reducible rfl | simp only [zl, iz_add, iz_sub, iz_mul, iz_neg]) hi_86 (by decide), ?_⟩
            have e_87 : (upd (az m_coming) (((5 * (iz (m_state ((28 + r_35)).toNat))) + (iz ((b1 + (m_state ((48 + r_35)).toNat)) - (b1 + (m_state ((48 + r_35)).toNat)) / 5 * 5)))).toNatClampNeg ((iz (m_coming (((5 * (m_state ((28 + r_35)).toNat)) + ((b1 + (m_state ((48 + r_35)).toNat)) - (b1 + (m_state ((48 + r_35)).toNat)) / 5 * 5))).toNat)) + (iz x4_72))) = az (uz m_coming (((5 * (m_state ((28 + r_35)).toNat)) + ((b1 + (m_state ((48 + r_35)).toNat)) - (b1 + (m_state ((48 + r_35)).toNat)) / 5 * 5))).toNat ((m_coming (((5 * (m_state ((28 + r_35)).toNat)) + ((b1 + (m_state ((48 + r_35)).toNat)) - (b1 + (m_state ((48 + r_35)).toNat)) / 5 * 5))).toNat) + x4_72)) := z_upd (by first | with_reducible rfl | simp only [zl, iz_add, iz_sub, iz_mul, iz_neg]) (by first | with_reducible rfl | simp only [zl, iz_add, iz_sub, iz_mul, iz_neg]) (by first | with_reducible rfl | simp only [zl, iz_add, iz_sub, iz_mul, iz_neg]) hi_86 (by decide)
            try rw [e_87]
            intro y_89 hy_89
            obtain ⟨x2_88, hx2_88⟩ : ∃ z : Int, z = v2 + 1 := ⟨_, rfl⟩
            have hv := hv x2_88 hx2_88
            have ey_89 : y_89 = iz x2_88 := by rw [hy_89, hx2_88]; try exact (by first | with_reducible rfl | simp only [zl, iz_add, iz_sub, iz_mul, iz_neg])
            subst ey_89
            exact ih _ _ _ x2_88 (uz m_here v2.toNat ((m_here v2.toNat) - x4_72)) (uz m_coming (((5 * (m_state ((28 + r_35)).toNat)) + ((b1 + (m_state ((48 + r_35)).toNat)) - (b1 + (m_state ((48 + r_35)).toNat)) / 5 * 5))).toNat ((m_coming (((5 * (m_state ((28 + r_35)).toNat)) + ((b1 + (m_state ((48 + r_35)).toNat)) - (b1 + (m_state ((48 + r_35)).toNat)) / 5 * 5))).toNat) + x4_72)) (by first | with_reducible rfl | simp only [zl, iz_add, iz_sub, iz_mul, iz_neg]) (by first | with_reducible rfl | simp only [zl, iz_add, iz_sub, iz_mul, iz_neg]) (by first | with_reducible rfl | simp only [zl, iz_add, iz_sub, iz_mul, iz_neg]) hv
      · have hv := hv.2 (fun z9 => c9 (q_33.mpr z9))
        intro y_91 hy_91
        obtain ⟨x2_90, hx2_90⟩ : ∃ z : Int, z = v2 + 1 := ⟨_, rfl⟩
        have hv := hv x2_90 hx2_90
        have ey_91 : y_91 = iz x2_90 := by rw [hy_91, hx2_90]; try exact (by first | with_reducible rfl | simp only [zl, iz_add, iz_sub, iz_mul, iz_neg])
        subst ey_91
        exact ih _ _ _ x2_90 m_here m_coming (by first | with_reducible rfl | simp only [zl, iz_add, iz_sub, iz_mul, iz_neg]) (by first | with_reducible rfl | simp only [zl, iz_add, iz_sub, iz_mul, iz_neg]) (by first | with_reducible rfl | simp only [zl, iz_add, iz_sub, iz_mul, iz_neg]) hv

def iv_X5_rushTick (a1 : Int) (m_state : (Nat → Int)) (m_here : (Nat → Int)) (m_coming : (Nat → Int)) (m_far : (Nat → Int)) (post : ((Nat → Int) × (Nat → Int) × (Nat → Int)) → Prop) : Prop :=
  (∃ n_99, iv_X5_rushTick_L2 (fun m_here_17 m_coming_18 => (iv_X5_layFar a1 m_state m_far (fun (u_19 : (Nat → Int)) => (∃ n_94, iv_X5_rushTick_L55 (fun m_here_92 m_coming_93 => post (m_here_92, m_coming_93, u_19))  a1 m_state u_19 n_94 0 m_here_17 m_coming_18))))  a1 n_99 0 m_here m_coming)

set_option maxHeartbeats 4000000 in
theorem lift_X5_rushTick {a1' : Int32} {a1 : Int} {m_state' : (Nat → Int32)} {m_state : (Nat → Int)} {m_here' : (Nat → Int32)} {m_here : (Nat → Int)} {m_coming' : (Nat → Int32)} {m_coming : (Nat → Int)} {m_far' : (Nat → Int32)} {m_far : (Nat → Int)} (e_a1 : a1' = iz a1) (e_m_state : m_state' = az m_state) (e_m_here : m_here' = az m_here) (e_m_coming : m_coming' = az m_coming) (e_m_far : m_far' = az m_far) {post0 : ((Nat → Int32) × (Nat → Int32) × (Nat → Int32)) → Prop} {post : ((Nat → Int) × (Nat → Int) × (Nat → Int)) → Prop} (hv : iv_X5_rushTick a1 m_state m_here m_coming m_far post) (hp : ∀ (u : (Nat → Int) × (Nat → Int) × (Nat → Int)) (y : (Nat → Int32) × (Nat → Int32) × (Nat → Int32)), post u → y = (az u.1, az u.2.1, az u.2.2) → post0 y) : vc_X5_rushTick a1' m_state' m_here' m_coming' m_far' post0 := by
  subst e_a1
  subst e_m_state
  subst e_m_here
  subst e_m_coming
  subst e_m_far
  rw [iv_X5_rushTick] at hv
  rw [vc_X5_rushTick]
  obtain ⟨n_99, hv⟩ := hv
  refine ⟨n_99, lift_X5_rushTick_L2 (by first | with_reducible rfl | simp only [zl, iz_add, iz_sub, iz_mul, iz_neg]) (fun y_100 y_101 m_here_17 m_coming_18 hv ey_102 ey_103 => ?_)  n_99 _ _ _ 0 m_here m_coming (by first | with_reducible rfl | simp only [zl, iz_add, iz_sub, iz_mul, iz_neg]) (by first | with_reducible rfl | simp only [zl, iz_add, iz_sub, iz_mul, iz_neg]) (by first | with_reducible rfl | simp only [zl, iz_add, iz_sub, iz_mul, iz_neg]) hv⟩
  subst ey_102
  subst ey_103
  refine lift_X5_layFar (by first | with_reducible rfl | simp only [zl, iz_add, iz_sub, iz_mul, iz_neg]) (by first | with_reducible rfl | simp only [zl, iz_add, iz_sub, iz_mul, iz_neg]) (by first | with_reducible rfl | simp only [zl, iz_add, iz_sub, iz_mul, iz_neg]) hv (fun u_19 y_21 hv eu_23 => ?_)
  subst eu_23
  try dsimp only
  obtain ⟨n_94, hv⟩ := hv
  refine ⟨n_94, lift_X5_rushTick_L55 (by first | with_reducible rfl | simp only [zl, iz_add, iz_sub, iz_mul, iz_neg]) (by first | with_reducible rfl | simp only [zl, iz_add, iz_sub, iz_mul, iz_neg]) (by first | with_reducible rfl | simp only [zl, iz_add, iz_sub, iz_mul, iz_neg]) (fun y_95 y_96 m_here_92 m_coming_93 hv ey_97 ey_98 => ?_)  n_94 _ _ _ 0 m_here_17 m_coming_18 (by first | with_reducible rfl | simp only [zl, iz_add, iz_sub, iz_mul, iz_neg]) (by first | with_reducible rfl | simp only [zl, iz_add, iz_sub, iz_mul, iz_neg]) (by first | with_reducible rfl | simp only [zl, iz_add, iz_sub, iz_mul, iz_neg]) hv⟩
  subst ey_97
  subst ey_98
  exact hp _ _ hv (by first | with_reducible rfl | simp only [zl, iz_add, iz_sub, iz_mul, iz_neg])

def iv_X5_safeHere_L4 (K : Int → Prop) (m_state : (Nat → Int)) (m_here : (Nat → Int)) : Nat → Int → Int → Prop
  | 0, _, _ => False
  | n + 1, v1, v2 =>
    ((sm 6 ∧ sm v2) ∧ ((6 ≤ v2 → K v1) ∧ (¬ 6 ≤ v2 → (iv_X5_isSafe v2 m_state (fun (r_4 : Int) (u_3 : Unit) => ((sm r_4 ∧ sm 0) ∧ ((r_4 = 0 → (∀ x1_11 : Int, x1_11 = (v1 + 0) → (∀ x2_13 : Int, x2_13 = v2 + 1 → iv_X5_safeHere_L4 K m_state m_here n x1_11 x2_13))) ∧ (¬ r_4 = 0 → ((0 ≤ v2 ∧ v2 < 6) ∧ (∀ x1_17 : Int, x1_17 = (v1 + (m_here v2.toNat)) → (∀ x2_19 : Int, x2_19 = v2 + 1 → iv_X5_safeHere_L4 K m_state m_here n x1_17 x2_19)))))))))))

set_option maxHeartbeats 4000000 in
theorem lift_X5_safeHere_L4 {K0 : Int32 → Prop} {K : Int → Prop} {m_state' : (Nat → Int32)} {m_state : (Nat → Int)} {m_here' : (Nat → Int32)} {m_here : (Nat → Int)} (e_m_state : m_state' = az m_state) (e_m_here : m_here' = az m_here)  (hKx : ∀ (k1' : Int32) (k1 : Int), K k1 → k1' = iz k1 →  K0 k1') :
    ∀ (n : Nat) (v1' : Int32) (v2' : Int32) (v1 : Int) (v2 : Int) (e_v1 : v1' = iz v1) (e_v2 : v2' = iz v2), iv_X5_safeHere_L4 K m_state m_here n v1 v2 → vc_X5_safeHere_L4 K0 m_state' m_here' n v1' v2' := by
  subst e_m_state
  subst e_m_here
  intro n
  induction n with
  | zero =>
    intro v1' v2' v1 v2 e_v1 e_v2 hv
    exact False.elim hv
  | succ n ih =>
    intro v1' v2' v1 v2 e_v1 e_v2 hv
    subst e_v1
    subst e_v2
    rw [iv_X5_safeHere_L4] at hv
    rw [vc_X5_safeHere_L4]
    obtain ⟨hs_1, hv⟩ := hv
    have q_2 := z_le (x := 6) (a := 6) (by first | with_reducible rfl | simp only [zl, iz_add, iz_sub, iz_mul, iz_neg]) (y := (iz v2)) (b := v2) (by first | with_reducible rfl | simp only [zl, iz_add, iz_sub, iz_mul, iz_neg]) hs_1.1 hs_1.2
    refine ⟨fun c9 => ?_, fun c9 => ?_⟩
    · have hv := hv.1 (q_2.mp c9)
      exact hKx _ v1 hv (by first | with_reducible rfl | simp only [zl, iz_add, iz_sub, iz_mul, iz_neg])
    · have hv := hv.2 (fun z9 => c9 (q_2.mpr z9))
      refine lift_X5_isSafe (by first | with_reducible rfl | simp only [zl, iz_add, iz_sub, iz_mul, iz_neg]) (by first | with_reducible rfl | simp only [zl, iz_add, iz_sub, iz_mul, iz_neg]) hv (fun r_4 u_3 y_5 y_6 hv er_7 eu_8 => ?_)
      subst er_7; subst eu_8
      try dsimp only
      obtain ⟨hs_9, hv⟩ := hv
      have q_10 := z_eq (x := (iz r_4)) (a := r_4) (by first | with_reducible rfl | simp only [zl, iz_add, iz_sub, iz_mul, iz_neg]) (y := 0) (b := 0) (by first | with_reducible rfl | simp only [zl, iz_add, iz_sub, iz_mul, iz_neg]) hs_9.1 hs_9.2
      refine ⟨fun c9 => ?_, fun c9 => ?_⟩
      · have hv := hv.1 (q_10.mp c9)
        intro y_12 hy_12
        obtain ⟨x1_11, hx1_11⟩ : ∃ z : Int, z = (v1 + 0) := ⟨_, rfl⟩
        have hv := hv x1_11 hx1_11
        have ey_12 : y_12 = iz x1_11 := by rw [hy_12, hx1_11]; try exact (by first | with_reducible rfl | simp only [zl, iz_add, iz_sub, iz_mul, iz_neg])
        subst ey_12
        intro y_14 hy_14
        obtain ⟨x2_13, hx2_13⟩ : ∃ z : Int, z = v2 + 1 := ⟨_, rfl⟩
        have hv := hv x2_13 hx2_13
        have ey_14 : y_14 = iz x2_13 := by rw [hy_14, hx2_13]; try exact (by first | with_reducible rfl | simp only [zl, iz_add, iz_sub, iz_mul, iz_neg])
        subst ey_14
        exact ih _ _ x1_11 x2_13 (by first | with_reducible rfl | simp only [zl, iz_add, iz_sub, iz_mul, iz_neg]) (by first | with_reducible rfl | simp only [zl, iz_add, iz_sub, iz_mul, iz_neg]) hv
      · have hv := hv.2 (fun z9 => c9 (q_10.mpr z9))
        obtain ⟨hi_15, hv⟩ := hv
        refine ⟨z_in (by first | with_reducible rfl | simp only [zl, iz_add, iz_sub, iz_mul, iz_neg]) hi_15 (by decide), ?_⟩
        have e_16 : ((az m_here) ((iz v2)).toNatClampNeg) = iz (m_here v2.toNat) := z_at (by first | with_reducible rfl | simp only [zl, iz_add, iz_sub, iz_mul, iz_neg]) (by first | with_reducible rfl | simp only [zl, iz_add, iz_sub, iz_mul, iz_neg]) hi_15 (by decide)
        try rw [e_16]
        intro y_18 hy_18
        obtain ⟨x1_17, hx1_17⟩ : ∃ z : Int, z = (v1 + (m_here v2.toNat)) := ⟨_, rfl⟩
        have hv := hv x1_17 hx1_17
        have ey_18 : y_18 = iz x1_17 := by rw [hy_18, hx1_17]; try exact (by first | with_reducible rfl | simp only [zl, iz_add, iz_sub, iz_mul, iz_neg])
        subst ey_18
        intro y_20 hy_20
        obtain ⟨x2_19, hx2_19⟩ : ∃ z : Int, z = v2 + 1 := ⟨_, rfl⟩
        have hv := hv x2_19 hx2_19
        have ey_20 : y_20 = iz x2_19 := by rw [hy_20, hx2_19]; try exact (by first | with_reducible rfl | simp only [zl, iz_add, iz_sub, iz_mul, iz_neg])
        subst ey_20
        exact ih _ _ x1_17 x2_19 (by first | with_reducible rfl | simp only [zl, iz_add, iz_sub, iz_mul, iz_neg]) (by first | with_reducible rfl | simp only [zl, iz_add, iz_sub, iz_mul, iz_neg]) hv

def iv_X5_safeHere (m_state : (Nat → Int)) (m_here : (Nat → Int)) (post : Int → Unit → Prop) : Prop :=
  (∃ n_22, iv_X5_safeHere_L4 (fun k1_21 => post k1_21 ())  m_state m_here n_22 0 0)

set_option maxHeartbeats 4000000 in
theorem lift_X5_safeHere {m_state' : (Nat → Int32)} {m_state : (Nat → Int)} {m_here' : (Nat → Int32)} {m_here : (Nat → Int)} (e_m_state : m_state' = az m_state) (e_m_here : m_here' = az m_here) {post0 : Int32 → Unit → Prop} {post : Int → Unit → Prop} (hv : iv_X5_safeHere m_state m_here post) (hp : ∀ (r : Int) (u : Unit) (x : Int32) (y : Unit), post r u → x = iz r → y = () → post0 x y) : vc_X5_safeHere m_state' m_here' post0 := by
  subst e_m_state
  subst e_m_here
  rw [iv_X5_safeHere] at hv
  rw [vc_X5_safeHere]
  obtain ⟨n_22, hv⟩ := hv
  refine ⟨n_22, lift_X5_safeHere_L4 (by first | with_reducible rfl | simp only [zl, iz_add, iz_sub, iz_mul, iz_neg]) (by first | with_reducible rfl | simp only [zl, iz_add, iz_sub, iz_mul, iz_neg]) (fun y_23 k1_21 hv ey_24 => ?_)  n_22 _ _ 0 0 (by first | with_reducible rfl | simp only [zl, iz_add, iz_sub, iz_mul, iz_neg]) (by first | with_reducible rfl | simp only [zl, iz_add, iz_sub, iz_mul, iz_neg]) hv⟩
  subst ey_24
  exact hp _ _ _ _ hv (by first | with_reducible rfl | simp only [zl, iz_add, iz_sub, iz_mul, iz_neg]) (by first | with_reducible rfl | simp only [zl, iz_add, iz_sub, iz_mul, iz_neg])

def iv_X5_beginRush_L2 (K : (Nat → Int) → Prop) (m_state : (Nat → Int)) : Nat → Int → (Nat → Int) → Prop
  | 0, _, _ => False
  | n + 1, v1, m_here =>
    ((sm 6 ∧ sm v1) ∧ ((6 ≤ v1 → K m_here) ∧ (¬ 6 ≤ v1 → ((0 ≤ (0 + v1) ∧ (0 + v1) < 69) ∧ ((0 ≤ v1 ∧ v1 < 6) ∧ (∀ x1_7 : Int, x1_7 = v1 + 1 → iv_X5_beginRush_L2 K m_state n x1_7 (uz m_here v1.toNat (m_state ((0 + v1)).toNat))))))))

set_option maxHeartbeats 4000000 in
theorem lift_X5_beginRush_L2 {K0 : (Nat → Int32) → Prop} {K : (Nat → Int) → Prop} {m_state' : (Nat → Int32)} {m_state : (Nat → Int)} (e_m_state : m_state' = az m_state)  (hKx : ∀ (k_m_here' : (Nat → Int32)) (k_m_here : (Nat → Int)), K k_m_here → k_m_here' = az k_m_here →  K0 k_m_here') :
    ∀ (n : Nat) (v1' : Int32) (m_here' : (Nat → Int32)) (v1 : Int) (m_here : (Nat → Int)) (e_v1 : v1' = iz v1) (e_m_here : m_here' = az m_here), iv_X5_beginRush_L2 K m_state n v1 m_here → vc_X5_beginRush_L2 K0 m_state' n v1' m_here' := by
  subst e_m_state
  intro n
  induction n with
  | zero =>
    intro v1' m_here' v1 m_here e_v1 e_m_here hv
    exact False.elim hv
  | succ n ih =>
    intro v1' m_here' v1 m_here e_v1 e_m_here hv
    subst e_v1
    subst e_m_here
    rw [iv_X5_beginRush_L2] at hv
    rw [vc_X5_beginRush_L2]
    obtain ⟨hs_1, hv⟩ := hv
    have q_2 := z_le (x := 6) (a := 6) (by first | with_reducible rfl | simp only [zl, iz_add, iz_sub, iz_mul, iz_neg]) (y := (iz v1)) (b := v1) (by first | with_reducible rfl | simp only [zl, iz_add, iz_sub, iz_mul, iz_neg]) hs_1.1 hs_1.2
    refine ⟨fun c9 => ?_, fun c9 => ?_⟩
    · have hv := hv.1 (q_2.mp c9)
      exact hKx _ m_here hv (by first | with_reducible rfl | simp only [zl, iz_add, iz_sub, iz_mul, iz_neg])
    · have hv := hv.2 (fun z9 => c9 (q_2.mpr z9))
      obtain ⟨hi_3, hv⟩ := hv
      refine ⟨z_in (by first | with_reducible rfl | simp only [zl, iz_add, iz_sub, iz_mul, iz_neg]) hi_3 (by decide), ?_⟩
      have e_4 : ((az m_state) ((0 + (iz v1))).toNatClampNeg) = iz (m_state ((0 + v1)).toNat) := z_at (by first | with_reducible rfl | simp only [zl, iz_add, iz_sub, iz_mul, iz_neg]) (by first | with_reducible rfl | simp only [zl, iz_add, iz_sub, iz_mul, iz_neg]) hi_3 (by decide)
      try rw [e_4]
      obtain ⟨hi_5, hv⟩ := hv
      refine ⟨z_in (by first | with_reducible rfl | simp only [zl, iz_add, iz_sub, iz_mul, iz_neg]) hi_5 (by decide), ?_⟩
      have e_6 : (upd (az m_here) ((iz v1)).toNatClampNeg (iz (m_state ((0 + v1)).toNat))) = az (uz m_here v1.toNat (m_state ((0 + v1)).toNat)) := z_upd (by first | with_reducible rfl | simp only [zl, iz_add, iz_sub, iz_mul, iz_neg]) (by first | with_reducible rfl | simp only [zl, iz_add, iz_sub, iz_mul, iz_neg]) (by first | with_reducible rfl | simp only [zl, iz_add, iz_sub, iz_mul, iz_neg]) hi_5 (by decide)
      try rw [e_6]
      intro y_8 hy_8
      obtain ⟨x1_7, hx1_7⟩ : ∃ z : Int, z = v1 + 1 := ⟨_, rfl⟩
      have hv := hv x1_7 hx1_7
      have ey_8 : y_8 = iz x1_7 := by rw [hy_8, hx1_7]; try exact (by first | with_reducible rfl | simp only [zl, iz_add, iz_sub, iz_mul, iz_neg])
      subst ey_8
      exact ih _ _ x1_7 (uz m_here v1.toNat (m_state ((0 + v1)).toNat)) (by first | with_reducible rfl | simp only [zl, iz_add, iz_sub, iz_mul, iz_neg]) (by first | with_reducible rfl | simp only [zl, iz_add, iz_sub, iz_mul, iz_neg]) hv

def iv_X5_beginRush_L30 (K : (Nat → Int) → Prop)  : Nat → Int → (Nat → Int) → Prop
  | 0, _, _ => False
  | n + 1, v1, m_coming =>
    ((sm 30 ∧ sm v1) ∧ ((30 ≤ v1 → K m_coming) ∧ (¬ 30 ≤ v1 → ((0 ≤ v1 ∧ v1 < 30) ∧ (∀ x1_14 : Int, x1_14 = v1 + 1 → iv_X5_beginRush_L30 K  n x1_14 (uz m_coming v1.toNat 0))))))

set_option maxHeartbeats 4000000 in
theorem lift_X5_beginRush_L30 {K0 : (Nat → Int32) → Prop} {K : (Nat → Int) → Prop}    (hKx : ∀ (k_m_coming' : (Nat → Int32)) (k_m_coming : (Nat → Int)), K k_m_coming → k_m_coming' = az k_m_coming →  K0 k_m_coming') :
    ∀ (n : Nat) (v1' : Int32) (m_coming' : (Nat → Int32)) (v1 : Int) (m_coming : (Nat → Int)) (e_v1 : v1' = iz v1) (e_m_coming : m_coming' = az m_coming), iv_X5_beginRush_L30 K  n v1 m_coming → vc_X5_beginRush_L30 K0  n v1' m_coming' := by
  intro n
  induction n with
  | zero =>
    intro v1' m_coming' v1 m_coming e_v1 e_m_coming hv
    exact False.elim hv
  | succ n ih =>
    intro v1' m_coming' v1 m_coming e_v1 e_m_coming hv
    subst e_v1
    subst e_m_coming
    rw [iv_X5_beginRush_L30] at hv
    rw [vc_X5_beginRush_L30]
    obtain ⟨hs_10, hv⟩ := hv
    have q_11 := z_le (x := 30) (a := 30) (by first | with_reducible rfl | simp only [zl, iz_add, iz_sub, iz_mul, iz_neg]) (y := (iz v1)) (b := v1) (by first | with_reducible rfl | simp only [zl, iz_add, iz_sub, iz_mul, iz_neg]) hs_10.1 hs_10.2
    refine ⟨fun c9 => ?_, fun c9 => ?_⟩
    · have hv := hv.1 (q_11.mp c9)
      exact hKx _ m_coming hv (by first | with_reducible rfl | simp only [zl, iz_add, iz_sub, iz_mul, iz_neg])
    · have hv := hv.2 (fun z9 => c9 (q_11.mpr z9))
      obtain ⟨hi_12, hv⟩ := hv
      refine ⟨z_in (by first | with_reducible rfl | simp only [zl, iz_add, iz_sub, iz_mul, iz_neg]) hi_12 (by decide), ?_⟩
      have e_13 : (upd (az m_coming) ((iz v1)).toNatClampNeg 0) = az (uz m_coming v1.toNat 0) := z_upd (by first | with_reducible rfl | simp only [zl, iz_add, iz_sub, iz_mul, iz_neg]) (by first | with_reducible rfl | simp only [zl, iz_add, iz_sub, iz_mul, iz_neg]) (by first | with_reducible rfl | simp only [zl, iz_add, iz_sub, iz_mul, iz_neg]) hi_12 (by decide)
      try rw [e_13]
      intro y_15 hy_15
      obtain ⟨x1_14, hx1_14⟩ : ∃ z : Int, z = v1 + 1 := ⟨_, rfl⟩
      have hv := hv x1_14 hx1_14
      have ey_15 : y_15 = iz x1_14 := by rw [hy_15, hx1_14]; try exact (by first | with_reducible rfl | simp only [zl, iz_add, iz_sub, iz_mul, iz_neg])
      subst ey_15
      exact ih _ _ x1_14 (uz m_coming v1.toNat 0) (by first | with_reducible rfl | simp only [zl, iz_add, iz_sub, iz_mul, iz_neg]) (by first | with_reducible rfl | simp only [zl, iz_add, iz_sub, iz_mul, iz_neg]) hv

def iv_X5_beginRush (m_state : (Nat → Int)) (m_here : (Nat → Int)) (m_coming : (Nat → Int)) (post : ((Nat → Int) × (Nat → Int)) → Prop) : Prop :=
  (∃ n_20, iv_X5_beginRush_L2 (fun m_here_9 => (∃ n_17, iv_X5_beginRush_L30 (fun m_coming_16 => post (m_here_9, m_coming_16))   n_17 0 m_coming))  m_state n_20 0 m_here)

set_option maxHeartbeats 4000000 in
theorem lift_X5_beginRush {m_state' : (Nat → Int32)} {m_state : (Nat → Int)} {m_here' : (Nat → Int32)} {m_here : (Nat → Int)} {m_coming' : (Nat → Int32)} {m_coming : (Nat → Int)} (e_m_state : m_state' = az m_state) (e_m_here : m_here' = az m_here) (e_m_coming : m_coming' = az m_coming) {post0 : ((Nat → Int32) × (Nat → Int32)) → Prop} {post : ((Nat → Int) × (Nat → Int)) → Prop} (hv : iv_X5_beginRush m_state m_here m_coming post) (hp : ∀ (u : (Nat → Int) × (Nat → Int)) (y : (Nat → Int32) × (Nat → Int32)), post u → y = (az u.1, az u.2) → post0 y) : vc_X5_beginRush m_state' m_here' m_coming' post0 := by
  subst e_m_state
  subst e_m_here
  subst e_m_coming
  rw [iv_X5_beginRush] at hv
  rw [vc_X5_beginRush]
  obtain ⟨n_20, hv⟩ := hv
  refine ⟨n_20, lift_X5_beginRush_L2 (by first | with_reducible rfl | simp only [zl, iz_add, iz_sub, iz_mul, iz_neg]) (fun y_21 m_here_9 hv ey_22 => ?_)  n_20 _ _ 0 m_here (by first | with_reducible rfl | simp only [zl, iz_add, iz_sub, iz_mul, iz_neg]) (by first | with_reducible rfl | simp only [zl, iz_add, iz_sub, iz_mul, iz_neg]) hv⟩
  subst ey_22
  obtain ⟨n_17, hv⟩ := hv
  refine ⟨n_17, lift_X5_beginRush_L30  (fun y_18 m_coming_16 hv ey_19 => ?_)  n_17 _ _ 0 m_coming (by first | with_reducible rfl | simp only [zl, iz_add, iz_sub, iz_mul, iz_neg]) (by first | with_reducible rfl | simp only [zl, iz_add, iz_sub, iz_mul, iz_neg]) hv⟩
  subst ey_19
  exact hp _ _ hv (by first | with_reducible rfl | simp only [zl, iz_add, iz_sub, iz_mul, iz_neg])

def iv_X5_rush_L20 (K : (Nat → Int) → (Nat → Int) → (Nat → Int) → Prop) (b1 : Int) (m_state : (Nat → Int)) : Nat → Int → (Nat → Int) → (Nat → Int) → (Nat → Int) → Prop
  | 0, _, _, _, _ => False
  | n + 1, v2, m_here, m_coming, m_far =>
    ((sm b1 ∧ sm v2) ∧ ((b1 < v2 → K m_here m_coming m_far) ∧ (¬ b1 < v2 → (iv_X5_rushTick v2 m_state m_here m_coming m_far (fun (u_16 : (Nat → Int) × (Nat → Int) × (Nat → Int)) => (∀ x2_21 : Int, x2_21 = v2 + 1 → iv_X5_rush_L20 K b1 m_state n x2_21 u_16.1 u_16.2.1 u_16.2.2))))))

set_option maxHeartbeats 4000000 in
theorem lift_X5_rush_L20 {K0 : (Nat → Int32) → (Nat → Int32) → (Nat → Int32) → Prop} {K : (Nat → Int) → (Nat → Int) → (Nat → Int) → Prop} {b1' : Int32} {b1 : Int} {m_state' : (Nat → Int32)} {m_state : (Nat → Int)} (e_b1 : b1' = iz b1) (e_m_state : m_state' = az m_state)  (hKx : ∀ (k_m_here' : (Nat → Int32)) (k_m_coming' : (Nat → Int32)) (k_m_far' : (Nat → Int32)) (k_m_here : (Nat → Int)) (k_m_coming : (Nat → Int)) (k_m_far : (Nat → Int)), K k_m_here k_m_coming k_m_far → k_m_here' = az k_m_here → k_m_coming' = az k_m_coming → k_m_far' = az k_m_far →  K0 k_m_here' k_m_coming' k_m_far') :
    ∀ (n : Nat) (v2' : Int32) (m_here' : (Nat → Int32)) (m_coming' : (Nat → Int32)) (m_far' : (Nat → Int32)) (v2 : Int) (m_here : (Nat → Int)) (m_coming : (Nat → Int)) (m_far : (Nat → Int)) (e_v2 : v2' = iz v2) (e_m_here : m_here' = az m_here) (e_m_coming : m_coming' = az m_coming) (e_m_far : m_far' = az m_far), iv_X5_rush_L20 K b1 m_state n v2 m_here m_coming m_far → vc_X5_rush_L20 K0 b1' m_state' n v2' m_here' m_coming' m_far' := by
  subst e_b1
  subst e_m_state
  intro n
  induction n with
  | zero =>
    intro v2' m_here' m_coming' m_far' v2 m_here m_coming m_far e_v2 e_m_here e_m_coming e_m_far hv
    exact False.elim hv
  | succ n ih =>
    intro v2' m_here' m_coming' m_far' v2 m_here m_coming m_far e_v2 e_m_here e_m_coming e_m_far hv
    subst e_v2
    subst e_m_here
    subst e_m_coming
    subst e_m_far
    rw [iv_X5_rush_L20] at hv
    rw [vc_X5_rush_L20]
    obtain ⟨hs_14, hv⟩ := hv
    have q_15 := z_lt (x := (iz b1)) (a := b1) (by first | with_reducible rfl | simp only [zl, iz_add, iz_sub, iz_mul, iz_neg]) (y := (iz v2)) (b := v2) (by first | with_reducible rfl | simp only [zl, iz_add, iz_sub, iz_mul, iz_neg]) hs_14.1 hs_14.2
    refine ⟨fun c9 => ?_, fun c9 => ?_⟩
    · have hv := hv.1 (q_15.mp c9)
      exact hKx _ _ _ m_here m_coming m_far hv (by first | with_reducible rfl | simp only [zl, iz_add, iz_sub, iz_mul, iz_neg]) (by first | with_reducible rfl | simp only [zl, iz_add, iz_sub, iz_mul, iz_neg]) (by first | with_reducible rfl | simp only [zl, iz_add, iz_sub, iz_mul, iz_neg])
    · have hv := hv.2 (fun z9 => c9 (q_15.mpr z9))
      refine lift_X5_rushTick (by first | with_reducible rfl | simp only [zl, iz_add, iz_sub, iz_mul, iz_neg]) (by first | with_reducible rfl | simp only [zl, iz_add, iz_sub, iz_mul, iz_neg]) (by first | with_reducible rfl | simp only [zl, iz_add, iz_sub, iz_mul, iz_neg]) (by first | with_reducible rfl | simp only [zl, iz_add, iz_sub, iz_mul, iz_neg]) (by first | with_reducible rfl | simp only [zl, iz_add, iz_sub, iz_mul, iz_neg]) hv (fun u_16 y_18 hv eu_20 => ?_)
      subst eu_20
      try dsimp only
      intro y_22 hy_22
      obtain ⟨x2_21, hx2_21⟩ : ∃ z : Int, z = v2 + 1 := ⟨_, rfl⟩
      have hv := hv x2_21 hx2_21
      have ey_22 : y_22 = iz x2_21 := by rw [hy_22, hx2_21]; try exact (by first | with_reducible rfl | simp only [zl, iz_add, iz_sub, iz_mul, iz_neg])
      subst ey_22
      exact ih _ _ _ _ x2_21 u_16.1 u_16.2.1 u_16.2.2 (by first | with_reducible rfl | simp only [zl, iz_add, iz_sub, iz_mul, iz_neg]) (by first | with_reducible rfl | simp only [zl, iz_add, iz_sub, iz_mul, iz_neg]) (by first | with_reducible rfl | simp only [zl, iz_add, iz_sub, iz_mul, iz_neg]) (by first | with_reducible rfl | simp only [zl, iz_add, iz_sub, iz_mul, iz_neg]) hv

def iv_X5_rush (a1 : Int) (m_state : (Nat → Int)) (m_here : (Nat → Int)) (m_coming : (Nat → Int)) (m_far : (Nat → Int)) (post : Int → ((Nat → Int) × (Nat → Int) × (Nat → Int)) → Prop) : Prop :=
  (iv_X5_in a1 0 200 (fun (r_2 : Int) (u_1 : Unit) => ((sm r_2 ∧ sm 0) ∧ ((¬ r_2 = 0 → (iv_X5_beginRush m_state m_here m_coming (fun (u_9 : (Nat → Int) × (Nat → Int)) => (∃ n_32, iv_X5_rush_L20 (fun m_here_23 m_coming_24 m_far_25 => (iv_X5_safeHere m_state m_here_23 (fun (r_27 : Int) (u_26 : Unit) => post r_27 (m_here_23, m_coming_24, m_far_25))))  a1 m_state n_32 0 u_9.1 u_9.2 m_far)))) ∧ (r_2 = 0 → post (-2) (m_here, m_coming, m_far))))))

set_option maxHeartbeats 4000000 in
theorem lift_X5_rush {a1' : Int32} {a1 : Int} {m_state' : (Nat → Int32)} {m_state : (Nat → Int)} {m_here' : (Nat → Int32)} {m_here : (Nat → Int)} {m_coming' : (Nat → Int32)} {m_coming : (Nat → Int)} {m_far' : (Nat → Int32)} {m_far : (Nat → Int)} (e_a1 : a1' = iz a1) (e_m_state : m_state' = az m_state) (e_m_here : m_here' = az m_here) (e_m_coming : m_coming' = az m_coming) (e_m_far : m_far' = az m_far) {post0 : Int32 → ((Nat → Int32) × (Nat → Int32) × (Nat → Int32)) → Prop} {post : Int → ((Nat → Int) × (Nat → Int) × (Nat → Int)) → Prop} (hv : iv_X5_rush a1 m_state m_here m_coming m_far post) (hp : ∀ (r : Int) (u : (Nat → Int) × (Nat → Int) × (Nat → Int)) (x : Int32) (y : (Nat → Int32) × (Nat → Int32) × (Nat → Int32)), post r u → x = iz r → y = (az u.1, az u.2.1, az u.2.2) → post0 x y) : vc_X5_rush a1' m_state' m_here' m_coming' m_far' post0 := by
  subst e_a1
  subst e_m_state
  subst e_m_here
  subst e_m_coming
  subst e_m_far
  rw [iv_X5_rush] at hv
  rw [vc_X5_rush]
  refine lift_X5_in (by first | with_reducible rfl | simp only [zl, iz_add, iz_sub, iz_mul, iz_neg]) (by first | with_reducible rfl | simp only [zl, iz_add, iz_sub, iz_mul, iz_neg]) (by first | with_reducible rfl | simp only [zl, iz_add, iz_sub, iz_mul, iz_neg]) hv (fun r_2 u_1 y_3 y_4 hv er_5 eu_6 => ?_)
  subst er_5; subst eu_6
  try dsimp only
  obtain ⟨hs_7, hv⟩ := hv
  have q_8 := z_eq (x := (iz r_2)) (a := r_2) (by first | with_reducible rfl | simp only [zl, iz_add, iz_sub, iz_mul, iz_neg]) (y := 0) (b := 0) (by first | with_reducible rfl | simp only [zl, iz_add, iz_sub, iz_mul, iz_neg]) hs_7.1 hs_7.2
  refine ⟨fun c9 => ?_, fun c9 => ?_⟩
  · have hv := hv.1 (fun z9 => c9 (q_8.mpr z9))
    refine lift_X5_beginRush (by first | with_reducible rfl | simp only [zl, iz_add, iz_sub, iz_mul, iz_neg]) (by first | with_reducible rfl | simp only [zl, iz_add, iz_sub, iz_mul, iz_neg]) (by first | with_reducible rfl | simp only [zl, iz_add, iz_sub, iz_mul, iz_neg]) hv (fun u_9 y_11 hv eu_13 => ?_)
    subst eu_13
    try dsimp only
    obtain ⟨n_32, hv⟩ := hv
    refine ⟨n_32, lift_X5_rush_L20 (by first | with_reducible rfl | simp only [zl, iz_add, iz_sub, iz_mul, iz_neg]) (by first | with_reducible rfl | simp only [zl, iz_add, iz_sub, iz_mul, iz_neg]) (fun y_33 y_34 y_35 m_here_23 m_coming_24 m_far_25 hv ey_36 ey_37 ey_38 => ?_)  n_32 _ _ _ _ 0 u_9.1 u_9.2 m_far (by first | with_reducible rfl | simp only [zl, iz_add, iz_sub, iz_mul, iz_neg]) (by first | with_reducible rfl | simp only [zl, iz_add, iz_sub, iz_mul, iz_neg]) (by first | with_reducible rfl | simp only [zl, iz_add, iz_sub, iz_mul, iz_neg]) (by first | with_reducible rfl | simp only [zl, iz_add, iz_sub, iz_mul, iz_neg]) hv⟩
    subst ey_36
    subst ey_37
    subst ey_38
    refine lift_X5_safeHere (by first | with_reducible rfl | simp only [zl, iz_add, iz_sub, iz_mul, iz_neg]) (by first | with_reducible rfl | simp only [zl, iz_add, iz_sub, iz_mul, iz_neg]) hv (fun r_27 u_26 y_28 y_29 hv er_30 eu_31 => ?_)
    subst er_30; subst eu_31
    try dsimp only
    exact hp _ _ _ _ hv (by first | with_reducible rfl | simp only [zl, iz_add, iz_sub, iz_mul, iz_neg]) (by first | with_reducible rfl | simp only [zl, iz_add, iz_sub, iz_mul, iz_neg])
  · have hv := hv.2 (q_8.mp c9)
    exact hp _ _ _ _ hv (by first | with_reducible rfl | simp only [zl, iz_add, iz_sub, iz_mul, iz_neg]) (by first | with_reducible rfl | simp only [zl, iz_add, iz_sub, iz_mul, iz_neg])

def iv_X5_rushed_L6 (K : (Nat → Int) → (Nat → Int) → (Nat → Int) → Prop) (post : Int → ((Nat → Int) × (Nat → Int) × (Nat → Int)) → Prop) (m_state : (Nat → Int)) : Nat → Int → (Nat → Int) → (Nat → Int) → (Nat → Int) → Prop
  | 0, _, _, _, _ => False
  | n + 1, v1, m_here, m_coming, m_far =>
    ((sm 200 ∧ sm v1) ∧ ((200 < v1 → K m_here m_coming m_far) ∧ (¬ 200 < v1 → (iv_X5_rushTick v1 m_state m_here m_coming m_far (fun (u_8 : (Nat → Int) × (Nat → Int) × (Nat → Int)) => (iv_X5_safeHere m_state u_8.1 (fun (r_14 : Int) (u_13 : Unit) => (iv_X5_people m_state (fun (r_20 : Int) (u_19 : Unit) => ((sm r_14 ∧ sm r_20) ∧ ((¬ r_14 = r_20 → (∀ x1_27 : Int, x1_27 = v1 + 1 → iv_X5_rushed_L6 K post m_state n x1_27 u_8.1 u_8.2.1 u_8.2.2)) ∧ (r_14 = r_20 → post v1 (u_8.1, u_8.2.1, u_8.2.2)))))))))))))

set_option maxHeartbeats 4000000 in
theorem lift_X5_rushed_L6 {K0 : (Nat → Int32) → (Nat → Int32) → (Nat → Int32) → Prop} {K : (Nat → Int) → (Nat → Int) → (Nat → Int) → Prop} {post0 : Int32 → ((Nat → Int32) × (Nat → Int32) × (Nat → Int32)) → Prop} {post : Int → ((Nat → Int) × (Nat → Int) × (Nat → Int)) → Prop} {m_state' : (Nat → Int32)} {m_state : (Nat → Int)} (e_m_state : m_state' = az m_state)  (hKx : ∀ (k_m_here' : (Nat → Int32)) (k_m_coming' : (Nat → Int32)) (k_m_far' : (Nat → Int32)) (k_m_here : (Nat → Int)) (k_m_coming : (Nat → Int)) (k_m_far : (Nat → Int)), K k_m_here k_m_coming k_m_far → k_m_here' = az k_m_here → k_m_coming' = az k_m_coming → k_m_far' = az k_m_far →  K0 k_m_here' k_m_coming' k_m_far') (hp : ∀ (r : Int) (u : (Nat → Int) × (Nat → Int) × (Nat → Int)) (x : Int32) (y : (Nat → Int32) × (Nat → Int32) × (Nat → Int32)), post r u → x = iz r → y = (az u.1, az u.2.1, az u.2.2) → post0 x y) :
    ∀ (n : Nat) (v1' : Int32) (m_here' : (Nat → Int32)) (m_coming' : (Nat → Int32)) (m_far' : (Nat → Int32)) (v1 : Int) (m_here : (Nat → Int)) (m_coming : (Nat → Int)) (m_far : (Nat → Int)) (e_v1 : v1' = iz v1) (e_m_here : m_here' = az m_here) (e_m_coming : m_coming' = az m_coming) (e_m_far : m_far' = az m_far), iv_X5_rushed_L6 K post m_state n v1 m_here m_coming m_far → vc_X5_rushed_L6 K0 post0 m_state' n v1' m_here' m_coming' m_far' := by
  subst e_m_state
  intro n
  induction n with
  | zero =>
    intro v1' m_here' m_coming' m_far' v1 m_here m_coming m_far e_v1 e_m_here e_m_coming e_m_far hv
    exact False.elim hv
  | succ n ih =>
    intro v1' m_here' m_coming' m_far' v1 m_here m_coming m_far e_v1 e_m_here e_m_coming e_m_far hv
    subst e_v1
    subst e_m_here
    subst e_m_coming
    subst e_m_far
    rw [iv_X5_rushed_L6] at hv
    rw [vc_X5_rushed_L6]
    obtain ⟨hs_6, hv⟩ := hv
    have q_7 := z_lt (x := 200) (a := 200) (by first | with_reducible rfl | simp only [zl, iz_add, iz_sub, iz_mul, iz_neg]) (y := (iz v1)) (b := v1) (by first | with_reducible rfl | simp only [zl, iz_add, iz_sub, iz_mul, iz_neg]) hs_6.1 hs_6.2
    refine ⟨fun c9 => ?_, fun c9 => ?_⟩
    · have hv := hv.1 (q_7.mp c9)
      exact hKx _ _ _ m_here m_coming m_far hv (by first | with_reducible rfl | simp only [zl, iz_add, iz_sub, iz_mul, iz_neg]) (by first | with_reducible rfl | simp only [zl, iz_add, iz_sub, iz_mul, iz_neg]) (by first | with_reducible rfl | simp only [zl, iz_add, iz_sub, iz_mul, iz_neg])
    · have hv := hv.2 (fun z9 => c9 (q_7.mpr z9))
      refine lift_X5_rushTick (by first | with_reducible rfl | simp only [zl, iz_add, iz_sub, iz_mul, iz_neg]) (by first | with_reducible rfl | simp only [zl, iz_add, iz_sub, iz_mul, iz_neg]) (by first | with_reducible rfl | simp only [zl, iz_add, iz_sub, iz_mul, iz_neg]) (by first | with_reducible rfl | simp only [zl, iz_add, iz_sub, iz_mul, iz_neg]) (by first | with_reducible rfl | simp only [zl, iz_add, iz_sub, iz_mul, iz_neg]) hv (fun u_8 y_10 hv eu_12 => ?_)
      subst eu_12
      try dsimp only
      refine lift_X5_safeHere (by first | with_reducible rfl | simp only [zl, iz_add, iz_sub, iz_mul, iz_neg]) (by first | with_reducible rfl | simp only [zl, iz_add, iz_sub, iz_mul, iz_neg]) hv (fun r_14 u_13 y_15 y_16 hv er_17 eu_18 => ?_)
      subst er_17; subst eu_18
      try dsimp only
      refine lift_X5_people (by first | with_reducible rfl | simp only [zl, iz_add, iz_sub, iz_mul, iz_neg]) hv (fun r_20 u_19 y_21 y_22 hv er_23 eu_24 => ?_)
      subst er_23; subst eu_24
      try dsimp only
      obtain ⟨hs_25, hv⟩ := hv
      have q_26 := z_eq (x := (iz r_14)) (a := r_14) (by first | with_reducible rfl | simp only [zl, iz_add, iz_sub, iz_mul, iz_neg]) (y := (iz r_20)) (b := r_20) (by first | with_reducible rfl | simp only [zl, iz_add, iz_sub, iz_mul, iz_neg]) hs_25.1 hs_25.2
      refine ⟨fun c9 => ?_, fun c9 => ?_⟩
      · have hv := hv.1 (fun z9 => c9 (q_26.mpr z9))
        intro y_28 hy_28
        obtain ⟨x1_27, hx1_27⟩ : ∃ z : Int, z = v1 + 1 := ⟨_, rfl⟩
        have hv := hv x1_27 hx1_27
        have ey_28 : y_28 = iz x1_27 := by rw [hy_28, hx1_27]; try exact (by first | with_reducible rfl | simp only [zl, iz_add, iz_sub, iz_mul, iz_neg])
        subst ey_28
        exact ih _ _ _ _ x1_27 u_8.1 u_8.2.1 u_8.2.2 (by first | with_reducible rfl | simp only [zl, iz_add, iz_sub, iz_mul, iz_neg]) (by first | with_reducible rfl | simp only [zl, iz_add, iz_sub, iz_mul, iz_neg]) (by first | with_reducible rfl | simp only [zl, iz_add, iz_sub, iz_mul, iz_neg]) (by first | with_reducible rfl | simp only [zl, iz_add, iz_sub, iz_mul, iz_neg]) hv
      · have hv := hv.2 (q_26.mp c9)
        exact hp _ _ _ _ hv (by first | with_reducible rfl | simp only [zl, iz_add, iz_sub, iz_mul, iz_neg]) (by first | with_reducible rfl | simp only [zl, iz_add, iz_sub, iz_mul, iz_neg])

def iv_X5_rushed (m_state : (Nat → Int)) (m_here : (Nat → Int)) (m_coming : (Nat → Int)) (m_far : (Nat → Int)) (post : Int → ((Nat → Int) × (Nat → Int) × (Nat → Int)) → Prop) : Prop :=
  (iv_X5_beginRush m_state m_here m_coming (fun (u_1 : (Nat → Int) × (Nat → Int)) => (∃ n_32, iv_X5_rushed_L6 (fun m_here_29 m_coming_30 m_far_31 => post (-6) (m_here_29, m_coming_30, m_far_31)) post m_state n_32 0 u_1.1 u_1.2 m_far)))

set_option maxHeartbeats 4000000 in
theorem lift_X5_rushed {m_state' : (Nat → Int32)} {m_state : (Nat → Int)} {m_here' : (Nat → Int32)} {m_here : (Nat → Int)} {m_coming' : (Nat → Int32)} {m_coming : (Nat → Int)} {m_far' : (Nat → Int32)} {m_far : (Nat → Int)} (e_m_state : m_state' = az m_state) (e_m_here : m_here' = az m_here) (e_m_coming : m_coming' = az m_coming) (e_m_far : m_far' = az m_far) {post0 : Int32 → ((Nat → Int32) × (Nat → Int32) × (Nat → Int32)) → Prop} {post : Int → ((Nat → Int) × (Nat → Int) × (Nat → Int)) → Prop} (hv : iv_X5_rushed m_state m_here m_coming m_far post) (hp : ∀ (r : Int) (u : (Nat → Int) × (Nat → Int) × (Nat → Int)) (x : Int32) (y : (Nat → Int32) × (Nat → Int32) × (Nat → Int32)), post r u → x = iz r → y = (az u.1, az u.2.1, az u.2.2) → post0 x y) : vc_X5_rushed m_state' m_here' m_coming' m_far' post0 := by
  subst e_m_state
  subst e_m_here
  subst e_m_coming
  subst e_m_far
  rw [iv_X5_rushed] at hv
  rw [vc_X5_rushed]
  refine lift_X5_beginRush (by first | with_reducible rfl | simp only [zl, iz_add, iz_sub, iz_mul, iz_neg]) (by first | with_reducible rfl | simp only [zl, iz_add, iz_sub, iz_mul, iz_neg]) (by first | with_reducible rfl | simp only [zl, iz_add, iz_sub, iz_mul, iz_neg]) hv (fun u_1 y_3 hv eu_5 => ?_)
  subst eu_5
  try dsimp only
  obtain ⟨n_32, hv⟩ := hv
  refine ⟨n_32, lift_X5_rushed_L6 (by first | with_reducible rfl | simp only [zl, iz_add, iz_sub, iz_mul, iz_neg]) (fun y_33 y_34 y_35 m_here_29 m_coming_30 m_far_31 hv ey_36 ey_37 ey_38 => ?_) hp n_32 _ _ _ _ 0 u_1.1 u_1.2 m_far (by first | with_reducible rfl | simp only [zl, iz_add, iz_sub, iz_mul, iz_neg]) (by first | with_reducible rfl | simp only [zl, iz_add, iz_sub, iz_mul, iz_neg]) (by first | with_reducible rfl | simp only [zl, iz_add, iz_sub, iz_mul, iz_neg]) (by first | with_reducible rfl | simp only [zl, iz_add, iz_sub, iz_mul, iz_neg]) hv⟩
  subst ey_36
  subst ey_37
  subst ey_38
  exact hp _ _ _ _ hv (by first | with_reducible rfl | simp only [zl, iz_add, iz_sub, iz_mul, iz_neg]) (by first | with_reducible rfl | simp only [zl, iz_add, iz_sub, iz_mul, iz_neg])

def iv_X5_image_L14 (K : (Nat → Int) → Prop) (b1 : Int) (m_state : (Nat → Int)) : Nat → Int → (Nat → Int) → Prop
  | 0, _, _ => False
  | n + 1, v2, m_images =>
    ((sm 69 ∧ sm v2) ∧ ((69 ≤ v2 → K m_images) ∧ (¬ 69 ≤ v2 → ((0 ≤ v2 ∧ v2 < 69) ∧ ((0 ≤ ((69 * b1) + v2) ∧ ((69 * b1) + v2) < 138) ∧ (∀ x2_15 : Int, x2_15 = v2 + 1 → iv_X5_image_L14 K b1 m_state n x2_15 (uz m_images (((69 * b1) + v2)).toNat (m_state v2.toNat))))))))

set_option maxHeartbeats 4000000 in
theorem lift_X5_image_L14 {K0 : (Nat → Int32) → Prop} {K : (Nat → Int) → Prop} {b1' : Int32} {b1 : Int} {m_state' : (Nat → Int32)} {m_state : (Nat → Int)} (e_b1 : b1' = iz b1) (e_m_state : m_state' = az m_state)  (hKx : ∀ (k_m_images' : (Nat → Int32)) (k_m_images : (Nat → Int)), K k_m_images → k_m_images' = az k_m_images →  K0 k_m_images') :
    ∀ (n : Nat) (v2' : Int32) (m_images' : (Nat → Int32)) (v2 : Int) (m_images : (Nat → Int)) (e_v2 : v2' = iz v2) (e_m_images : m_images' = az m_images), iv_X5_image_L14 K b1 m_state n v2 m_images → vc_X5_image_L14 K0 b1' m_state' n v2' m_images' := by
  subst e_b1
  subst e_m_state
  intro n
  induction n with
  | zero =>
    intro v2' m_images' v2 m_images e_v2 e_m_images hv
    exact False.elim hv
  | succ n ih =>
    intro v2' m_images' v2 m_images e_v2 e_m_images hv
    subst e_v2
    subst e_m_images
    rw [iv_X5_image_L14] at hv
    rw [vc_X5_image_L14]
    obtain ⟨hs_9, hv⟩ := hv
    have q_10 := z_le (x := 69) (a := 69) (by first | with_reducible rfl | simp only [zl, iz_add, iz_sub, iz_mul, iz_neg]) (y := (iz v2)) (b := v2) (by first | with_reducible rfl | simp only [zl, iz_add, iz_sub, iz_mul, iz_neg]) hs_9.1 hs_9.2
    refine ⟨fun c9 => ?_, fun c9 => ?_⟩
    · have hv := hv.1 (q_10.mp c9)
      exact hKx _ m_images hv (by first | with_reducible rfl | simp only [zl, iz_add, iz_sub, iz_mul, iz_neg])
    · have hv := hv.2 (fun z9 => c9 (q_10.mpr z9))
      obtain ⟨hi_11, hv⟩ := hv
      refine ⟨z_in (by first | with_reducible rfl | simp only [zl, iz_add, iz_sub, iz_mul, iz_neg]) hi_11 (by decide), ?_⟩
      have e_12 : ((az m_state) ((iz v2)).toNatClampNeg) = iz (m_state v2.toNat) := z_at (by first | with_reducible rfl | simp only [zl, iz_add, iz_sub, iz_mul, iz_neg]) (by first | with_reducible rfl | simp only [zl, iz_add, iz_sub, iz_mul, iz_neg]) hi_11 (by decide)
      try rw [e_12]
      obtain ⟨hi_13, hv⟩ := hv
      refine ⟨z_in (by first | with_reducible rfl | simp only [zl, iz_add, iz_sub, iz_mul, iz_neg]) hi_13 (by decide), ?_⟩
      have e_14 : (upd (az m_images) (((69 * (iz b1)) + (iz v2))).toNatClampNeg (iz (m_state v2.toNat))) = az (uz m_images (((69 * b1) + v2)).toNat (m_state v2.toNat)) := z_upd (by first | with_reducible rfl | simp only [zl, iz_add, iz_sub, iz_mul, iz_neg]) (by first | with_reducible rfl | simp only [zl, iz_add, iz_sub, iz_mul, iz_neg]) (by first | with_reducible rfl | simp only [zl, iz_add, iz_sub, iz_mul, iz_neg]) hi_13 (by decide)
      try rw [e_14]
      intro y_16 hy_16
      obtain ⟨x2_15, hx2_15⟩ : ∃ z : Int, z = v2 + 1 := ⟨_, rfl⟩
      have hv := hv x2_15 hx2_15
      have ey_16 : y_16 = iz x2_15 := by rw [hy_16, hx2_15]; try exact (by first | with_reducible rfl | simp only [zl, iz_add, iz_sub, iz_mul, iz_neg])
      subst ey_16
      exact ih _ _ x2_15 (uz m_images (((69 * b1) + v2)).toNat (m_state v2.toNat)) (by first | with_reducible rfl | simp only [zl, iz_add, iz_sub, iz_mul, iz_neg]) (by first | with_reducible rfl | simp only [zl, iz_add, iz_sub, iz_mul, iz_neg]) hv

def iv_X5_image (a1 : Int) (m_state : (Nat → Int)) (m_images : (Nat → Int)) (m_isKept : (Nat → Int)) (post : Int → ((Nat → Int) × (Nat → Int)) → Prop) : Prop :=
  (iv_X5_in a1 0 1 (fun (r_2 : Int) (u_1 : Unit) => ((sm r_2 ∧ sm 0) ∧ ((¬ r_2 = 0 → (∃ n_20, iv_X5_image_L14 (fun m_images_17 => ((0 ≤ a1 ∧ a1 < 2) ∧ post 1 (m_images_17, (uz m_isKept a1.toNat 1))))  a1 m_state n_20 0 m_images)) ∧ (r_2 = 0 → post (-2) (m_images, m_isKept))))))

set_option maxHeartbeats 4000000 in
theorem lift_X5_image {a1' : Int32} {a1 : Int} {m_state' : (Nat → Int32)} {m_state : (Nat → Int)} {m_images' : (Nat → Int32)} {m_images : (Nat → Int)} {m_isKept' : (Nat → Int32)} {m_isKept : (Nat → Int)} (e_a1 : a1' = iz a1) (e_m_state : m_state' = az m_state) (e_m_images : m_images' = az m_images) (e_m_isKept : m_isKept' = az m_isKept) {post0 : Int32 → ((Nat → Int32) × (Nat → Int32)) → Prop} {post : Int → ((Nat → Int) × (Nat → Int)) → Prop} (hv : iv_X5_image a1 m_state m_images m_isKept post) (hp : ∀ (r : Int) (u : (Nat → Int) × (Nat → Int)) (x : Int32) (y : (Nat → Int32) × (Nat → Int32)), post r u → x = iz r → y = (az u.1, az u.2) → post0 x y) : vc_X5_image a1' m_state' m_images' m_isKept' post0 := by
  subst e_a1
  subst e_m_state
  subst e_m_images
  subst e_m_isKept
  rw [iv_X5_image] at hv
  rw [vc_X5_image]
  refine lift_X5_in (by first | with_reducible rfl | simp only [zl, iz_add, iz_sub, iz_mul, iz_neg]) (by first | with_reducible rfl | simp only [zl, iz_add, iz_sub, iz_mul, iz_neg]) (by first | with_reducible rfl | simp only [zl, iz_add, iz_sub, iz_mul, iz_neg]) hv (fun r_2 u_1 y_3 y_4 hv er_5 eu_6 => ?_)
  subst er_5; subst eu_6
  try dsimp only
  obtain ⟨hs_7, hv⟩ := hv
  have q_8 := z_eq (x := (iz r_2)) (a := r_2) (by first | with_reducible rfl | simp only [zl, iz_add, iz_sub, iz_mul, iz_neg]) (y := 0) (b := 0) (by first | with_reducible rfl | simp only [zl, iz_add, iz_sub, iz_mul, iz_neg]) hs_7.1 hs_7.2
  refine ⟨fun c9 => ?_, fun c9 => ?_⟩
  · have hv := hv.1 (fun z9 => c9 (q_8.mpr z9))
    obtain ⟨n_20, hv⟩ := hv
    refine ⟨n_20, lift_X5_image_L14 (by first | with_reducible rfl | simp only [zl, iz_add, iz_sub, iz_mul, iz_neg]) (by first | with_reducible rfl | simp only [zl, iz_add, iz_sub, iz_mul, iz_neg]) (fun y_21 m_images_17 hv ey_22 => ?_)  n_20 _ _ 0 m_images (by first | with_reducible rfl | simp only [zl, iz_add, iz_sub, iz_mul, iz_neg]) (by first | with_reducible rfl | simp only [zl, iz_add, iz_sub, iz_mul, iz_neg]) hv⟩
    subst ey_22
    obtain ⟨hi_18, hv⟩ := hv
    refine ⟨z_in (by first | with_reducible rfl | simp only [zl, iz_add, iz_sub, iz_mul, iz_neg]) hi_18 (by decide), ?_⟩
    have e_19 : (upd (az m_isKept) ((iz a1)).toNatClampNeg 1) = az (uz m_isKept a1.toNat 1) := z_upd (by first | with_reducible rfl | simp only [zl, iz_add, iz_sub, iz_mul, iz_neg]) (by first | with_reducible rfl | simp only [zl, iz_add, iz_sub, iz_mul, iz_neg]) (by first | with_reducible rfl | simp only [zl, iz_add, iz_sub, iz_mul, iz_neg]) hi_18 (by decide)
    try rw [e_19]
    exact hp _ _ _ _ hv (by first | with_reducible rfl | simp only [zl, iz_add, iz_sub, iz_mul, iz_neg]) (by first | with_reducible rfl | simp only [zl, iz_add, iz_sub, iz_mul, iz_neg])
  · have hv := hv.2 (q_8.mp c9)
    exact hp _ _ _ _ hv (by first | with_reducible rfl | simp only [zl, iz_add, iz_sub, iz_mul, iz_neg]) (by first | with_reducible rfl | simp only [zl, iz_add, iz_sub, iz_mul, iz_neg])

def iv_X5_restore_L26 (K : (Nat → Int) → Prop) (b1 : Int) (m_images : (Nat → Int)) : Nat → Int → (Nat → Int) → Prop
  | 0, _, _ => False
  | n + 1, v2, m_state =>
    ((sm 69 ∧ sm v2) ∧ ((69 ≤ v2 → K m_state) ∧ (¬ 69 ≤ v2 → ((0 ≤ ((69 * b1) + v2) ∧ ((69 * b1) + v2) < 138) ∧ ((0 ≤ v2 ∧ v2 < 69) ∧ (∀ x2_19 : Int, x2_19 = v2 + 1 → iv_X5_restore_L26 K b1 m_images n x2_19 (uz m_state v2.toNat (m_images (((69 * b1) + v2)).toNat))))))))

set_option maxHeartbeats 4000000 in
theorem lift_X5_restore_L26 {K0 : (Nat → Int32) → Prop} {K : (Nat → Int) → Prop} {b1' : Int32} {b1 : Int} {m_images' : (Nat → Int32)} {m_images : (Nat → Int)} (e_b1 : b1' = iz b1) (e_m_images : m_images' = az m_images)  (hKx : ∀ (k_m_state' : (Nat → Int32)) (k_m_state : (Nat → Int)), K k_m_state → k_m_state' = az k_m_state →  K0 k_m_state') :
    ∀ (n : Nat) (v2' : Int32) (m_state' : (Nat → Int32)) (v2 : Int) (m_state : (Nat → Int)) (e_v2 : v2' = iz v2) (e_m_state : m_state' = az m_state), iv_X5_restore_L26 K b1 m_images n v2 m_state → vc_X5_restore_L26 K0 b1' m_images' n v2' m_state' := by
  subst e_b1
  subst e_m_images
  intro n
  induction n with
  | zero =>
    intro v2' m_state' v2 m_state e_v2 e_m_state hv
    exact False.elim hv
  | succ n ih =>
    intro v2' m_state' v2 m_state e_v2 e_m_state hv
    subst e_v2
    subst e_m_state
    rw [iv_X5_restore_L26] at hv
    rw [vc_X5_restore_L26]
    obtain ⟨hs_13, hv⟩ := hv
    have q_14 := z_le (x := 69) (a := 69) (by first | with_reducible rfl | simp only [zl, iz_add, iz_sub, iz_mul, iz_neg]) (y := (iz v2)) (b := v2) (by first | with_reducible rfl | simp only [zl, iz_add, iz_sub, iz_mul, iz_neg]) hs_13.1 hs_13.2
    refine ⟨fun c9 => ?_, fun c9 => ?_⟩
    · have hv := hv.1 (q_14.mp c9)
      exact hKx _ m_state hv (by first | with_reducible rfl | simp only [zl, iz_add, iz_sub, iz_mul, iz_neg])
    · have hv := hv.2 (fun z9 => c9 (q_14.mpr z9))
      obtain ⟨hi_15, hv⟩ := hv
      refine ⟨z_in (by first | with_reducible rfl | simp only [zl, iz_add, iz_sub, iz_mul, iz_neg]) hi_15 (by decide), ?_⟩
      have e_16 : ((az m_images) (((69 * (iz b1)) + (iz v2))).toNatClampNeg) = iz (m_images (((69 * b1) + v2)).toNat) := z_at (by first | with_reducible rfl | simp only [zl, iz_add, iz_sub, iz_mul, iz_neg]) (by first | with_reducible rfl | simp only [zl, iz_add, iz_sub, iz_mul, iz_neg]) hi_15 (by decide)
      try rw [e_16]
      obtain ⟨hi_17, hv⟩ := hv
      refine ⟨z_in (by first | with_reducible rfl | simp only [zl, iz_add, iz_sub, iz_mul, iz_neg]) hi_17 (by decide), ?_⟩
      have e_18 : (upd (az m_state) ((iz v2)).toNatClampNeg (iz (m_images (((69 * b1) + v2)).toNat))) = az (uz m_state v2.toNat (m_images (((69 * b1) + v2)).toNat)) := z_upd (by first | with_reducible rfl | simp only [zl, iz_add, iz_sub, iz_mul, iz_neg]) (by first | with_reducible rfl | simp only [zl, iz_add, iz_sub, iz_mul, iz_neg]) (by first | with_reducible rfl | simp only [zl, iz_add, iz_sub, iz_mul, iz_neg]) hi_17 (by decide)
      try rw [e_18]
      intro y_20 hy_20
      obtain ⟨x2_19, hx2_19⟩ : ∃ z : Int, z = v2 + 1 := ⟨_, rfl⟩
      have hv := hv x2_19 hx2_19
      have ey_20 : y_20 = iz x2_19 := by rw [hy_20, hx2_19]; try exact (by first | with_reducible rfl | simp only [zl, iz_add, iz_sub, iz_mul, iz_neg])
      subst ey_20
      exact ih _ _ x2_19 (uz m_state v2.toNat (m_images (((69 * b1) + v2)).toNat)) (by first | with_reducible rfl | simp only [zl, iz_add, iz_sub, iz_mul, iz_neg]) (by first | with_reducible rfl | simp only [zl, iz_add, iz_sub, iz_mul, iz_neg]) hv

def iv_X5_restore (a1 : Int) (m_state : (Nat → Int)) (m_images : (Nat → Int)) (m_isKept : (Nat → Int)) (post : Int → (Nat → Int) → Prop) : Prop :=
  (iv_X5_in a1 0 1 (fun (r_2 : Int) (u_1 : Unit) => ((sm r_2 ∧ sm 0) ∧ ((¬ r_2 = 0 → ((0 ≤ a1 ∧ a1 < 2) ∧ ((sm (m_isKept a1.toNat) ∧ sm 0) ∧ ((¬ (m_isKept a1.toNat) = 0 → (∃ n_22, iv_X5_restore_L26 (fun m_state_21 => post 1 m_state_21)  a1 m_images n_22 0 m_state)) ∧ ((m_isKept a1.toNat) = 0 → post (-3) m_state))))) ∧ (r_2 = 0 → post (-2) m_state)))))

set_option maxHeartbeats 4000000 in
theorem lift_X5_restore {a1' : Int32} {a1 : Int} {m_state' : (Nat → Int32)} {m_state : (Nat → Int)} {m_images' : (Nat → Int32)} {m_images : (Nat → Int)} {m_isKept' : (Nat → Int32)} {m_isKept : (Nat → Int)} (e_a1 : a1' = iz a1) (e_m_state : m_state' = az m_state) (e_m_images : m_images' = az m_images) (e_m_isKept : m_isKept' = az m_isKept) {post0 : Int32 → (Nat → Int32) → Prop} {post : Int → (Nat → Int) → Prop} (hv : iv_X5_restore a1 m_state m_images m_isKept post) (hp : ∀ (r : Int) (u : (Nat → Int)) (x : Int32) (y : (Nat → Int32)), post r u → x = iz r → y = az u → post0 x y) : vc_X5_restore a1' m_state' m_images' m_isKept' post0 := by
  subst e_a1
  subst e_m_state
  subst e_m_images
  subst e_m_isKept
  rw [iv_X5_restore] at hv
  rw [vc_X5_restore]
  refine lift_X5_in (by first | with_reducible rfl | simp only [zl, iz_add, iz_sub, iz_mul, iz_neg]) (by first | with_reducible rfl | simp only [zl, iz_add, iz_sub, iz_mul, iz_neg]) (by first | with_reducible rfl | simp only [zl, iz_add, iz_sub, iz_mul, iz_neg]) hv (fun r_2 u_1 y_3 y_4 hv er_5 eu_6 => ?_)
  subst er_5; subst eu_6
  try dsimp only
  obtain ⟨hs_7, hv⟩ := hv
  have q_8 := z_eq (x := (iz r_2)) (a := r_2) (by first | with_reducible rfl | simp only [zl, iz_add, iz_sub, iz_mul, iz_neg]) (y := 0) (b := 0) (by first | with_reducible rfl | simp only [zl, iz_add, iz_sub, iz_mul, iz_neg]) hs_7.1 hs_7.2
  refine ⟨fun c9 => ?_, fun c9 => ?_⟩
  · have hv := hv.1 (fun z9 => c9 (q_8.mpr z9))
    obtain ⟨hi_9, hv⟩ := hv
    refine ⟨z_in (by first | with_reducible rfl | simp only [zl, iz_add, iz_sub, iz_mul, iz_neg]) hi_9 (by decide), ?_⟩
    have e_10 : ((az m_isKept) ((iz a1)).toNatClampNeg) = iz (m_isKept a1.toNat) := z_at (by first | with_reducible rfl | simp only [zl, iz_add, iz_sub, iz_mul, iz_neg]) (by first | with_reducible rfl | simp only [zl, iz_add, iz_sub, iz_mul, iz_neg]) hi_9 (by decide)
    try rw [e_10]
    obtain ⟨hs_11, hv⟩ := hv
    have q_12 := z_eq (x := (iz (m_isKept a1.toNat))) (a := (m_isKept a1.toNat)) (by first | with_reducible rfl | simp only [zl, iz_add, iz_sub, iz_mul, iz_neg]) (y := 0) (b := 0) (by first | with_reducible rfl | simp only [zl, iz_add, iz_sub, iz_mul, iz_neg]) hs_11.1 hs_11.2
    refine ⟨fun c9 => ?_, fun c9 => ?_⟩
    · have hv := hv.1 (fun z9 => c9 (q_12.mpr z9))
      obtain ⟨n_22, hv⟩ := hv
      refine ⟨n_22, lift_X5_restore_L26 (by first | with_reducible rfl | simp only [zl, iz_add, iz_sub, iz_mul, iz_neg]) (by first | with_reducible rfl | simp only [zl, iz_add, iz_sub, iz_mul, iz_neg]) (fun y_23 m_state_21 hv ey_24 => ?_)  n_22 _ _ 0 m_state (by first | with_reducible rfl | simp only [zl, iz_add, iz_sub, iz_mul, iz_neg]) (by first | with_reducible rfl | simp only [zl, iz_add, iz_sub, iz_mul, iz_neg]) hv⟩
      subst ey_24
      exact hp _ _ _ _ hv (by first | with_reducible rfl | simp only [zl, iz_add, iz_sub, iz_mul, iz_neg]) (by first | with_reducible rfl | simp only [zl, iz_add, iz_sub, iz_mul, iz_neg])
    · have hv := hv.2 (q_12.mp c9)
      exact hp _ _ _ _ hv (by first | with_reducible rfl | simp only [zl, iz_add, iz_sub, iz_mul, iz_neg]) (by first | with_reducible rfl | simp only [zl, iz_add, iz_sub, iz_mul, iz_neg])
  · have hv := hv.2 (q_8.mp c9)
    exact hp _ _ _ _ hv (by first | with_reducible rfl | simp only [zl, iz_add, iz_sub, iz_mul, iz_neg]) (by first | with_reducible rfl | simp only [zl, iz_add, iz_sub, iz_mul, iz_neg])

def iv_X5_shutOnes_L4 (K : Int → Prop) (m_state : (Nat → Int)) : Nat → Int → Int → Prop
  | 0, _, _ => False
  | n + 1, v1, v2 =>
    (iv_X5_many m_state (fun (r_2 : Int) (u_1 : Unit) => ((sm r_2 ∧ sm v2) ∧ ((r_2 ≤ v2 → K v1) ∧ (¬ r_2 ≤ v2 → ((0 ≤ (58 + v2) ∧ (58 + v2) < 69) ∧ ((sm (m_state ((58 + v2)).toNat) ∧ sm 1000) ∧ ((¬ (m_state ((58 + v2)).toNat) = 1000 → (∀ x1_13 : Int, x1_13 = (v1 + 1) → (∀ x2_15 : Int, x2_15 = v2 + 1 → iv_X5_shutOnes_L4 K m_state n x1_13 x2_15))) ∧ ((m_state ((58 + v2)).toNat) = 1000 → (∀ x1_17 : Int, x1_17 = (v1 + 0) → (∀ x2_19 : Int, x2_19 = v2 + 1 → iv_X5_shutOnes_L4 K m_state n x1_17 x2_19)))))))))))

set_option maxHeartbeats 4000000 in
theorem lift_X5_shutOnes_L4 {K0 : Int32 → Prop} {K : Int → Prop} {m_state' : (Nat → Int32)} {m_state : (Nat → Int)} (e_m_state : m_state' = az m_state)  (hKx : ∀ (k1' : Int32) (k1 : Int), K k1 → k1' = iz k1 →  K0 k1') :
    ∀ (n : Nat) (v1' : Int32) (v2' : Int32) (v1 : Int) (v2 : Int) (e_v1 : v1' = iz v1) (e_v2 : v2' = iz v2), iv_X5_shutOnes_L4 K m_state n v1 v2 → vc_X5_shutOnes_L4 K0 m_state' n v1' v2' := by
  subst e_m_state
  intro n
  induction n with
  | zero =>
    intro v1' v2' v1 v2 e_v1 e_v2 hv
    exact False.elim hv
  | succ n ih =>
    intro v1' v2' v1 v2 e_v1 e_v2 hv
    subst e_v1
    subst e_v2
    rw [iv_X5_shutOnes_L4] at hv
    rw [vc_X5_shutOnes_L4]
    refine lift_X5_many (by first | with_reducible rfl | simp only [zl, iz_add, iz_sub, iz_mul, iz_neg]) hv (fun r_2 u_1 y_3 y_4 hv er_5 eu_6 => ?_)
    subst er_5; subst eu_6
    try dsimp only
    obtain ⟨hs_7, hv⟩ := hv
    have q_8 := z_le (x := (iz r_2)) (a := r_2) (by first | with_reducible rfl | simp only [zl, iz_add, iz_sub, iz_mul, iz_neg]) (y := (iz v2)) (b := v2) (by first | with_reducible rfl | simp only [zl, iz_add, iz_sub, iz_mul, iz_neg]) hs_7.1 hs_7.2
    refine ⟨fun c9 => ?_, fun c9 => ?_⟩
    · have hv := hv.1 (q_8.mp c9)
      exact hKx _ v1 hv (by first | with_reducible rfl | simp only [zl, iz_add, iz_sub, iz_mul, iz_neg])
    · have hv := hv.2 (fun z9 => c9 (q_8.mpr z9))
      obtain ⟨hi_9, hv⟩ := hv
      refine ⟨z_in (by first | with_reducible rfl | simp only [zl, iz_add, iz_sub, iz_mul, iz_neg]) hi_9 (by decide), ?_⟩
      have e_10 : ((az m_state) ((58 + (iz v2))).toNatClampNeg) = iz (m_state ((58 + v2)).toNat) := z_at (by first | with_reducible rfl | simp only [zl, iz_add, iz_sub, iz_mul, iz_neg]) (by first | with_reducible rfl | simp only [zl, iz_add, iz_sub, iz_mul, iz_neg]) hi_9 (by decide)
      try rw [e_10]
      obtain ⟨hs_11, hv⟩ := hv
      have q_12 := z_eq (x := (iz (m_state ((58 + v2)).toNat))) (a := (m_state ((58 + v2)).toNat)) (by first | with_reducible rfl | simp only [zl, iz_add, iz_sub, iz_mul, iz_neg]) (y := 1000) (b := 1000) (by first | with_reducible rfl | simp only [zl, iz_add, iz_sub, iz_mul, iz_neg]) hs_11.1 hs_11.2
      refine ⟨fun c9 => ?_, fun c9 => ?_⟩
      · have hv := hv.1 (fun z9 => c9 (q_12.mpr z9))
        intro y_14 hy_14
        obtain ⟨x1_13, hx1_13⟩ : ∃ z : Int, z = (v1 + 1) := ⟨_, rfl⟩
        have hv := hv x1_13 hx1_13
        have ey_14 : y_14 = iz x1_13 := by rw [hy_14, hx1_13]; try exact (by first | with_reducible rfl | simp only [zl, iz_add, iz_sub, iz_mul, iz_neg])
        subst ey_14
        intro y_16 hy_16
        obtain ⟨x2_15, hx2_15⟩ : ∃ z : Int, z = v2 + 1 := ⟨_, rfl⟩
        have hv := hv x2_15 hx2_15
        have ey_16 : y_16 = iz x2_15 := by rw [hy_16, hx2_15]; try exact (by first | with_reducible rfl | simp only [zl, iz_add, iz_sub, iz_mul, iz_neg])
        subst ey_16
        exact ih _ _ x1_13 x2_15 (by first | with_reducible rfl | simp only [zl, iz_add, iz_sub, iz_mul, iz_neg]) (by first | with_reducible rfl | simp only [zl, iz_add, iz_sub, iz_mul, iz_neg]) hv
      · have hv := hv.2 (q_12.mp c9)
        intro y_18 hy_18
        obtain ⟨x1_17, hx1_17⟩ : ∃ z : Int, z = (v1 + 0) := ⟨_, rfl⟩
        have hv := hv x1_17 hx1_17
        have ey_18 : y_18 = iz x1_17 := by rw [hy_18, hx1_17]; try exact (by first | with_reducible rfl | simp only [zl, iz_add, iz_sub, iz_mul, iz_neg])
        subst ey_18
        intro y_20 hy_20
        obtain ⟨x2_19, hx2_19⟩ : ∃ z : Int, z = v2 + 1 := ⟨_, rfl⟩
        have hv := hv x2_19 hx2_19
        have ey_20 : y_20 = iz x2_19 := by rw [hy_20, hx2_19]; try exact (by first | with_reducible rfl | simp only [zl, iz_add, iz_sub, iz_mul, iz_neg])
        subst ey_20
        exact ih _ _ x1_17 x2_19 (by first | with_reducible rfl | simp only [zl, iz_add, iz_sub, iz_mul, iz_neg]) (by first | with_reducible rfl | simp only [zl, iz_add, iz_sub, iz_mul, iz_neg]) hv

def iv_X5_shutOnes (m_state : (Nat → Int)) (post : Int → Unit → Prop) : Prop :=
  (∃ n_22, iv_X5_shutOnes_L4 (fun k1_21 => post k1_21 ())  m_state n_22 0 0)

set_option maxHeartbeats 4000000 in
theorem lift_X5_shutOnes {m_state' : (Nat → Int32)} {m_state : (Nat → Int)} (e_m_state : m_state' = az m_state) {post0 : Int32 → Unit → Prop} {post : Int → Unit → Prop} (hv : iv_X5_shutOnes m_state post) (hp : ∀ (r : Int) (u : Unit) (x : Int32) (y : Unit), post r u → x = iz r → y = () → post0 x y) : vc_X5_shutOnes m_state' post0 := by
  subst e_m_state
  rw [iv_X5_shutOnes] at hv
  rw [vc_X5_shutOnes]
  obtain ⟨n_22, hv⟩ := hv
  refine ⟨n_22, lift_X5_shutOnes_L4 (by first | with_reducible rfl | simp only [zl, iz_add, iz_sub, iz_mul, iz_neg]) (fun y_23 k1_21 hv ey_24 => ?_)  n_22 _ _ 0 0 (by first | with_reducible rfl | simp only [zl, iz_add, iz_sub, iz_mul, iz_neg]) (by first | with_reducible rfl | simp only [zl, iz_add, iz_sub, iz_mul, iz_neg]) hv⟩
  subst ey_24
  exact hp _ _ _ _ hv (by first | with_reducible rfl | simp only [zl, iz_add, iz_sub, iz_mul, iz_neg]) (by first | with_reducible rfl | simp only [zl, iz_add, iz_sub, iz_mul, iz_neg])

def iv_X5_safeSet_L4 (K : Int → Prop) (m_state : (Nat → Int)) : Nat → Int → Int → Prop
  | 0, _, _ => False
  | n + 1, v1, v2 =>
    ((sm 6 ∧ sm v2) ∧ ((6 ≤ v2 → K v1) ∧ (¬ 6 ≤ v2 → (iv_X5_isSafe v2 m_state (fun (r_4 : Int) (u_3 : Unit) => ((sm r_4 ∧ sm 0) ∧ ((r_4 = 0 → ((zn v1 ∧ zn 0) ∧ (∀ x1_13 : Int, x1_13 = (zor v1 0) → (∀ x2_15 : Int, x2_15 = v2 + 1 → iv_X5_safeSet_L4 K m_state n x1_13 x2_15)))) ∧ (¬ r_4 = 0 → ((0 ≤ v2 ∧ v2 < 30) ∧ ((zn v1 ∧ zn (2 ^ (v2).toNat)) ∧ (∀ x1_21 : Int, x1_21 = (zor v1 (2 ^ (v2).toNat)) → (∀ x2_23 : Int, x2_23 = v2 + 1 → iv_X5_safeSet_L4 K m_state n x1_21 x2_23))))))))))))

set_option maxHeartbeats 4000000 in
theorem lift_X5_safeSet_L4 {K0 : Int32 → Prop} {K : Int → Prop} {m_state' : (Nat → Int32)} {m_state : (Nat → Int)} (e_m_state : m_state' = az m_state)  (hKx : ∀ (k1' : Int32) (k1 : Int), K k1 → k1' = iz k1 →  K0 k1') :
    ∀ (n : Nat) (v1' : Int32) (v2' : Int32) (v1 : Int) (v2 : Int) (e_v1 : v1' = iz v1) (e_v2 : v2' = iz v2), iv_X5_safeSet_L4 K m_state n v1 v2 → vc_X5_safeSet_L4 K0 m_state' n v1' v2' := by
  subst e_m_state
  intro n
  induction n with
  | zero =>
    intro v1' v2' v1 v2 e_v1 e_v2 hv
    exact False.elim hv
  | succ n ih =>
    intro v1' v2' v1 v2 e_v1 e_v2 hv
    subst e_v1
    subst e_v2
    rw [iv_X5_safeSet_L4] at hv
    rw [vc_X5_safeSet_L4]
    obtain ⟨hs_1, hv⟩ := hv
    have q_2 := z_le (x := 6) (a := 6) (by first | with_reducible rfl | simp only [zl, iz_add, iz_sub, iz_mul, iz_neg]) (y := (iz v2)) (b := v2) (by first | with_reducible rfl | simp only [zl, iz_add, iz_sub, iz_mul, iz_neg]) hs_1.1 hs_1.2
    refine ⟨fun c9 => ?_, fun c9 => ?_⟩
    · have hv := hv.1 (q_2.mp c9)
      exact hKx _ v1 hv (by first | with_reducible rfl | simp only [zl, iz_add, iz_sub, iz_mul, iz_neg])
    · have hv := hv.2 (fun z9 => c9 (q_2.mpr z9))
      refine lift_X5_isSafe (by first | with_reducible rfl | simp only [zl, iz_add, iz_sub, iz_mul, iz_neg]) (by first | with_reducible rfl | simp only [zl, iz_add, iz_sub, iz_mul, iz_neg]) hv (fun r_4 u_3 y_5 y_6 hv er_7 eu_8 => ?_)
      subst er_7; subst eu_8
      try dsimp only
      obtain ⟨hs_9, hv⟩ := hv
      have q_10 := z_eq (x := (iz r_4)) (a := r_4) (by first | with_reducible rfl | simp only [zl, iz_add, iz_sub, iz_mul, iz_neg]) (y := 0) (b := 0) (by first | with_reducible rfl | simp only [zl, iz_add, iz_sub, iz_mul, iz_neg]) hs_9.1 hs_9.2
      refine ⟨fun c9 => ?_, fun c9 => ?_⟩
      · have hv := hv.1 (q_10.mp c9)
        obtain ⟨hc_11, hv⟩ := hv
        have e_12 : ((iz v1) ||| 0) = iz (zor v1 0) := z_or (by first | with_reducible rfl | simp only [zl, iz_add, iz_sub, iz_mul, iz_neg]) (by first | with_reducible rfl | simp only [zl, iz_add, iz_sub, iz_mul, iz_neg]) hc_11.1 hc_11.2
        try rw [e_12]
        intro y_14 hy_14
        obtain ⟨x1_13, hx1_13⟩ : ∃ z : Int, z = (zor v1 0) := ⟨_, rfl⟩
        have hv := hv x1_13 hx1_13
        have ey_14 : y_14 = iz x1_13 := by rw [hy_14, hx1_13]; try exact (by first | with_reducible rfl | simp only [zl, iz_add, iz_sub, iz_mul, iz_neg])
        subst ey_14
        intro y_16 hy_16
        obtain ⟨x2_15, hx2_15⟩ : ∃ z : Int, z = v2 + 1 := ⟨_, rfl⟩
        have hv := hv x2_15 hx2_15
        have ey_16 : y_16 = iz x2_15 := by rw [hy_16, hx2_15]; try exact (by first | with_reducible rfl | simp only [zl, iz_add, iz_sub, iz_mul, iz_neg])
        subst ey_16
        exact ih _ _ x1_13 x2_15 (by first | with_reducible rfl | simp only [zl, iz_add, iz_sub, iz_mul, iz_neg]) (by first | with_reducible rfl | simp only [zl, iz_add, iz_sub, iz_mul, iz_neg]) hv
      · have hv := hv.2 (fun z9 => c9 (q_10.mpr z9))
        obtain ⟨hc_17, hv⟩ := hv
        have e_18 : (1 <<< ((iz v2) &&& 31)) = iz (2 ^ (v2).toNat) := z_shl (by first | with_reducible rfl | simp only [zl, iz_add, iz_sub, iz_mul, iz_neg]) hc_17
        try rw [e_18]
        obtain ⟨hc_19, hv⟩ := hv
        have e_20 : ((iz v1) ||| (iz (2 ^ (v2).toNat))) = iz (zor v1 (2 ^ (v2).toNat)) := z_or (by first | with_reducible rfl | simp only [zl, iz_add, iz_sub, iz_mul, iz_neg]) (by first | with_reducible rfl | simp only [zl, iz_add, iz_sub, iz_mul, iz_neg]) hc_19.1 hc_19.2
        try rw [e_20]
        intro y_22 hy_22
        obtain ⟨x1_21, hx1_21⟩ : ∃ z : Int, z = (zor v1 (2 ^ (v2).toNat)) := ⟨_, rfl⟩
        have hv := hv x1_21 hx1_21
        have ey_22 : y_22 = iz x1_21 := by rw [hy_22, hx1_21]; try exact (by first | with_reducible rfl | simp only [zl, iz_add, iz_sub, iz_mul, iz_neg])
        subst ey_22
        intro y_24 hy_24
        obtain ⟨x2_23, hx2_23⟩ : ∃ z : Int, z = v2 + 1 := ⟨_, rfl⟩
        have hv := hv x2_23 hx2_23
        have ey_24 : y_24 = iz x2_23 := by rw [hy_24, hx2_23]; try exact (by first | with_reducible rfl | simp only [zl, iz_add, iz_sub, iz_mul, iz_neg])
        subst ey_24
        exact ih _ _ x1_21 x2_23 (by first | with_reducible rfl | simp only [zl, iz_add, iz_sub, iz_mul, iz_neg]) (by first | with_reducible rfl | simp only [zl, iz_add, iz_sub, iz_mul, iz_neg]) hv

def iv_X5_safeSet (m_state : (Nat → Int)) (post : Int → Unit → Prop) : Prop :=
  (∃ n_26, iv_X5_safeSet_L4 (fun k1_25 => post k1_25 ())  m_state n_26 0 0)

set_option maxHeartbeats 4000000 in
theorem lift_X5_safeSet {m_state' : (Nat → Int32)} {m_state : (Nat → Int)} (e_m_state : m_state' = az m_state) {post0 : Int32 → Unit → Prop} {post : Int → Unit → Prop} (hv : iv_X5_safeSet m_state post) (hp : ∀ (r : Int) (u : Unit) (x : Int32) (y : Unit), post r u → x = iz r → y = () → post0 x y) : vc_X5_safeSet m_state' post0 := by
  subst e_m_state
  rw [iv_X5_safeSet] at hv
  rw [vc_X5_safeSet]
  obtain ⟨n_26, hv⟩ := hv
  refine ⟨n_26, lift_X5_safeSet_L4 (by first | with_reducible rfl | simp only [zl, iz_add, iz_sub, iz_mul, iz_neg]) (fun y_27 k1_25 hv ey_28 => ?_)  n_26 _ _ 0 0 (by first | with_reducible rfl | simp only [zl, iz_add, iz_sub, iz_mul, iz_neg]) (by first | with_reducible rfl | simp only [zl, iz_add, iz_sub, iz_mul, iz_neg]) hv⟩
  subst ey_28
  exact hp _ _ _ _ hv (by first | with_reducible rfl | simp only [zl, iz_add, iz_sub, iz_mul, iz_neg]) (by first | with_reducible rfl | simp only [zl, iz_add, iz_sub, iz_mul, iz_neg])

def iv_X5_count (a1 : Int) (m_state : (Nat → Int)) (m_isKept : (Nat → Int)) (m_said : Int) (post : Int → Unit → Prop) : Prop :=
  ((sm a1) ∧ ((a1 = 0 → (iv_X5_people m_state (fun (r_3 : Int) (u_2 : Unit) => post r_3 ()))) ∧ (a1 = 1 → (iv_X5_many m_state (fun (r_9 : Int) (u_8 : Unit) => post r_9 ()))) ∧ (a1 = 2 → post m_said ()) ∧ (a1 = 3 → (iv_X5_shutOnes m_state (fun (r_15 : Int) (u_14 : Unit) => post r_15 ()))) ∧ (a1 = 4 → (iv_X5_safeSet m_state (fun (r_21 : Int) (u_20 : Unit) => post r_21 ()))) ∧ (a1 = 5 → ((sm (m_isKept 0) ∧ sm 0) ∧ (((m_isKept 0) = 0 → ((sm (m_isKept 1) ∧ sm 0) ∧ (((m_isKept 1) = 0 → post (0 + 0) ()) ∧ (¬ (m_isKept 1) = 0 → post (0 + 2) ())))) ∧ (¬ (m_isKept 0) = 0 → ((sm (m_isKept 1) ∧ sm 0) ∧ (((m_isKept 1) = 0 → post (1 + 0) ()) ∧ (¬ (m_isKept 1) = 0 → post (1 + 2) ()))))))) ∧ (¬ a1 = 0 ∧ ¬ a1 = 1 ∧ ¬ a1 = 2 ∧ ¬ a1 = 3 ∧ ¬ a1 = 4 ∧ ¬ a1 = 5 → post (-2) ())))

set_option maxHeartbeats 4000000 in
theorem lift_X5_count {a1' : Int32} {a1 : Int} {m_state' : (Nat → Int32)} {m_state : (Nat → Int)} {m_isKept' : (Nat → Int32)} {m_isKept : (Nat → Int)} {m_said' : Int32} {m_said : Int} (e_a1 : a1' = iz a1) (e_m_state : m_state' = az m_state) (e_m_isKept : m_isKept' = az m_isKept) (e_m_said : m_said' = iz m_said) {post0 : Int32 → Unit → Prop} {post : Int → Unit → Prop} (hv : iv_X5_count a1 m_state m_isKept m_said post) (hp : ∀ (r : Int) (u : Unit) (x : Int32) (y : Unit), post r u → x = iz r → y = () → post0 x y) : vc_X5_count a1' m_state' m_isKept' m_said' post0 := by
  subst e_a1
  subst e_m_state
  subst e_m_isKept
  subst e_m_said
  rw [iv_X5_count] at hv
  rw [vc_X5_count]
  obtain ⟨hc_1, hv⟩ := hv
  refine ⟨fun c9 => ?_, fun c9 => ?_, fun c9 => ?_, fun c9 => ?_, fun c9 => ?_, fun c9 => ?_, fun c9 => ?_⟩
  · have hv := hv.1 ((z_eq (x := (iz a1)) (y := 0) (a := a1) (b := 0) rfl rfl hc_1 (by unfold sm; omega)).mp c9)
    refine lift_X5_people (by first | with_reducible rfl | simp only [zl, iz_add, iz_sub, iz_mul, iz_neg]) hv (fun r_3 u_2 y_4 y_5 hv er_6 eu_7 => ?_)
    subst er_6; subst eu_7
    try dsimp only
    exact hp _ _ _ _ hv (by first | with_reducible rfl | simp only [zl, iz_add, iz_sub, iz_mul, iz_neg]) (by first | with_reducible rfl | simp only [zl, iz_add, iz_sub, iz_mul, iz_neg])
  · have hv := hv.2.1 ((z_eq (x := (iz a1)) (y := 1) (a := a1) (b := 1) rfl rfl hc_1 (by unfold sm; omega)).mp c9)
    refine lift_X5_many (by first | with_reducible rfl | simp only [zl, iz_add, iz_sub, iz_mul, iz_neg]) hv (fun r_9 u_8 y_10 y_11 hv er_12 eu_13 => ?_)
    subst er_12; subst eu_13
    try dsimp only
    exact hp _ _ _ _ hv (by first | with_reducible rfl | simp only [zl, iz_add, iz_sub, iz_mul, iz_neg]) (by first | with_reducible rfl | simp only [zl, iz_add, iz_sub, iz_mul, iz_neg])
  · have hv := hv.2.2.1 ((z_eq (x := (iz a1)) (y := 2) (a := a1) (b := 2) rfl rfl hc_1 (by unfold sm; omega)).mp c9)
    exact hp _ _ _ _ hv (by first | with_reducible rfl | simp only [zl, iz_add, iz_sub, iz_mul, iz_neg]) (by first | with_reducible rfl | simp only [zl, iz_add, iz_sub, iz_mul, iz_neg])
  · have hv := hv.2.2.2.1 ((z_eq (x := (iz a1)) (y := 3) (a := a1) (b := 3) rfl rfl hc_1 (by unfold sm; omega)).mp c9)
    refine lift_X5_shutOnes (by first | with_reducible rfl | simp only [zl, iz_add, iz_sub, iz_mul, iz_neg]) hv (fun r_15 u_14 y_16 y_17 hv er_18 eu_19 => ?_)
    subst er_18; subst eu_19
    try dsimp only
    exact hp _ _ _ _ hv (by first | with_reducible rfl | simp only [zl, iz_add, iz_sub, iz_mul, iz_neg]) (by first | with_reducible rfl | simp only [zl, iz_add, iz_sub, iz_mul, iz_neg])
  · have hv := hv.2.2.2.2.1 ((z_eq (x := (iz a1)) (y := 4) (a := a1) (b := 4) rfl rfl hc_1 (by unfold sm; omega)).mp c9)
    refine lift_X5_safeSet (by first | with_reducible rfl | simp only [zl, iz_add, iz_sub, iz_mul, iz_neg]) hv (fun r_21 u_20 y_22 y_23 hv er_24 eu_25 => ?_)
    subst er_24; subst eu_25
    try dsimp only
    exact hp _ _ _ _ hv (by first | with_reducible rfl | simp only [zl, iz_add, iz_sub, iz_mul, iz_neg]) (by first | with_reducible rfl | simp only [zl, iz_add, iz_sub, iz_mul, iz_neg])
  · have hv := hv.2.2.2.2.2.1 ((z_eq (x := (iz a1)) (y := 5) (a := a1) (b := 5) rfl rfl hc_1 (by unfold sm; omega)).mp c9)
    have e_26 : ((az m_isKept) 0) = iz (m_isKept 0) := z_at0 (by first | with_reducible rfl | simp only [zl, iz_add, iz_sub, iz_mul, iz_neg])
    try rw [e_26]
    obtain ⟨hs_27, hv⟩ := hv
    have q_28 := z_eq (x := (iz (m_isKept 0))) (a := (m_isKept 0)) (by first | with_reducible rfl | simp only [zl, iz_add, iz_sub, iz_mul, iz_neg]) (y := 0) (b := 0) (by first | with_reducible rfl | simp only [zl, iz_add, iz_sub, iz_mul, iz_neg]) hs_27.1 hs_27.2
    refine ⟨fun c9 => ?_, fun c9 => ?_⟩
    · have hv := hv.1 (q_28.mp c9)
      have e_29 : ((az m_isKept) 1) = iz (m_isKept 1) := z_at0 (by first | with_reducible rfl | simp only [zl, iz_add, iz_sub, iz_mul, iz_neg])
      try rw [e_29]
      obtain ⟨hs_30, hv⟩ := hv
      have q_31 := z_eq (x := (iz (m_isKept 1))) (a := (m_isKept 1)) (by first | with_reducible rfl | simp only [zl, iz_add, iz_sub, iz_mul, iz_neg]) (y := 0) (b := 0) (by first | with_reducible rfl | simp only [zl, iz_add, iz_sub, iz_mul, iz_neg]) hs_30.1 hs_30.2
      refine ⟨fun c9 => ?_, fun c9 => ?_⟩
      · have hv := hv.1 (q_31.mp c9)
        exact hp _ _ _ _ hv (by first | with_reducible rfl | simp only [zl, iz_add, iz_sub, iz_mul, iz_neg]) (by first | with_reducible rfl | simp only [zl, iz_add, iz_sub, iz_mul, iz_neg])
      · have hv := hv.2 (fun z9 => c9 (q_31.mpr z9))
        exact hp _ _ _ _ hv (by first | with_reducible rfl | simp only [zl, iz_add, iz_sub, iz_mul, iz_neg]) (by first | with_reducible rfl | simp only [zl, iz_add, iz_sub, iz_mul, iz_neg])
    · have hv := hv.2 (fun z9 => c9 (q_28.mpr z9))
      have e_32 : ((az m_isKept) 1) = iz (m_isKept 1) := z_at0 (by first | with_reducible rfl | simp only [zl, iz_add, iz_sub, iz_mul, iz_neg])
      try rw [e_32]
      obtain ⟨hs_33, hv⟩ := hv
      have q_34 := z_eq (x := (iz (m_isKept 1))) (a := (m_isKept 1)) (by first | with_reducible rfl | simp only [zl, iz_add, iz_sub, iz_mul, iz_neg]) (y := 0) (b := 0) (by first | with_reducible rfl | simp only [zl, iz_add, iz_sub, iz_mul, iz_neg]) hs_33.1 hs_33.2
      refine ⟨fun c9 => ?_, fun c9 => ?_⟩
      · have hv := hv.1 (q_34.mp c9)
        exact hp _ _ _ _ hv (by first | with_reducible rfl | simp only [zl, iz_add, iz_sub, iz_mul, iz_neg]) (by first | with_reducible rfl | simp only [zl, iz_add, iz_sub, iz_mul, iz_neg])
      · have hv := hv.2 (fun z9 => c9 (q_34.mpr z9))
        exact hp _ _ _ _ hv (by first | with_reducible rfl | simp only [zl, iz_add, iz_sub, iz_mul, iz_neg]) (by first | with_reducible rfl | simp only [zl, iz_add, iz_sub, iz_mul, iz_neg])
  · have hv := hv.2.2.2.2.2.2 ⟨fun z9 => c9.1 ((z_eq (x := (iz a1)) (y := 0) (a := a1) (b := 0) rfl rfl hc_1 (by unfold sm; omega)).mpr z9), fun z9 => c9.2.1 ((z_eq (x := (iz a1)) (y := 1) (a := a1) (b := 1) rfl rfl hc_1 (by unfold sm; omega)).mpr z9), fun z9 => c9.2.2.1 ((z_eq (x := (iz a1)) (y := 2) (a := a1) (b := 2) rfl rfl hc_1 (by unfold sm; omega)).mpr z9), fun z9 => c9.2.2.2.1 ((z_eq (x := (iz a1)) (y := 3) (a := a1) (b := 3) rfl rfl hc_1 (by unfold sm; omega)).mpr z9), fun z9 => c9.2.2.2.2.1 ((z_eq (x := (iz a1)) (y := 4) (a := a1) (b := 4) rfl rfl hc_1 (by unfold sm; omega)).mpr z9), fun z9 => c9.2.2.2.2.2 ((z_eq (x := (iz a1)) (y := 5) (a := a1) (b := 5) rfl rfl hc_1 (by unfold sm; omega)).mpr z9)⟩
    exact hp _ _ _ _ hv (by first | with_reducible rfl | simp only [zl, iz_add, iz_sub, iz_mul, iz_neg]) (by first | with_reducible rfl | simp only [zl, iz_add, iz_sub, iz_mul, iz_neg])
