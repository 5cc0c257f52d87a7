def iv_X2_allPeople_L4 (K : Int → Prop) (q_people : (Nat → Int)) : Nat → Int → Int → Prop
  | 0, _, _ => False
  | n + 1, v1, v2 =>
    ((sm 6 ∧ sm v2) ∧ ((6 ≤ v2 → K v1) ∧ (¬ 6 ≤ v2 → ((0 ≤ v2 ∧ v2 < 6) ∧ (∀ x1_5 : Int, x1_5 = (v1 + (q_people v2.toNat)) → (∀ x2_7 : Int, x2_7 = v2 + 1 → iv_X2_allPeople_L4 K q_people n x1_5 x2_7))))))

set_option maxHeartbeats 4000000 in
theorem lift_X2_allPeople_L4 {K0 : Int32 → Prop} {K : Int → Prop} {q_people' : (Nat → Int32)} {q_people : (Nat → Int)} (e_q_people : q_people' = az q_people)  (hKx : ∀ (k1' : Int32) (k1 : Int), K k1 → k1' = iz k1 →  K0 k1') :
    ∀ (n : Nat) (v1' : Int32) (v2' : Int32) (v1 : Int) (v2 : Int) (e_v1 : v1' = iz v1) (e_v2 : v2' = iz v2), iv_X2_allPeople_L4 K q_people n v1 v2 → vc_X2_allPeople_L4 K0 q_people' n v1' v2' := by
  subst e_q_people
  intro n
  induction n with
  | zero =>
    intro v1' v2' v1 v2 e_v1 e_v2 hv
    exact False.elim hv
  | succ n ih =>
    intro v1' v2' v1 v2 e_v1 e_v2 hv
    subst e_v1
    subst e_v2
    rw [iv_X2_allPeople_L4] at hv
    rw [vc_X2_allPeople_L4]
    obtain ⟨hs_1, hv⟩ := hv
    have q_2 := z_le (x := 6) (a := 6) (by first | with_reducible rfl | simp only [zl, iz_add, iz_sub, iz_mul, iz_neg]) (y := (iz v2)) (b := v2) (by first | with_reducible rfl | simp only [zl, iz_add, iz_sub, iz_mul, iz_neg]) hs_1.1 hs_1.2
    refine ⟨fun c9 => ?_, fun c9 => ?_⟩
    · have hv := hv.1 (q_2.mp c9)
      exact hKx _ v1 hv (by first | with_reducible rfl | simp only [zl, iz_add, iz_sub, iz_mul, iz_neg])
    · have hv := hv.2 (fun z9 => c9 (q_2.mpr z9))
      obtain ⟨hi_3, hv⟩ := hv
      refine ⟨z_in (by first | with_reducible rfl | simp only [zl, iz_add, iz_sub, iz_mul, iz_neg]) hi_3 (by decide), ?_⟩
      have e_4 : ((az q_people) ((iz v2)).toNatClampNeg) = iz (q_people v2.toNat) := z_at (by first | with_reducible rfl | simp only [zl, iz_add, iz_sub, iz_mul, iz_neg]) (by first | with_reducible rfl | simp only [zl, iz_add, iz_sub, iz_mul, iz_neg]) hi_3 (by decide)
      try rw [e_4]
      intro y_6 hy_6
      obtain ⟨x1_5, hx1_5⟩ : ∃ z : Int, z = (v1 + (q_people v2.toNat)) := ⟨_, rfl⟩
      have hv := hv x1_5 hx1_5
      have ey_6 : y_6 = iz x1_5 := by rw [hy_6, hx1_5]; try exact (by first | with_reducible rfl | simp only [zl, iz_add, iz_sub, iz_mul, iz_neg])
      subst ey_6
      intro y_8 hy_8
      obtain ⟨x2_7, hx2_7⟩ : ∃ z : Int, z = v2 + 1 := ⟨_, rfl⟩
      have hv := hv x2_7 hx2_7
      have ey_8 : y_8 = iz x2_7 := by rw [hy_8, hx2_7]; try exact (by first | with_reducible rfl | simp only [zl, iz_add, iz_sub, iz_mul, iz_neg])
      subst ey_8
      exact ih _ _ x1_5 x2_7 (by first | with_reducible rfl | simp only [zl, iz_add, iz_sub, iz_mul, iz_neg]) (by first | with_reducible rfl | simp only [zl, iz_add, iz_sub, iz_mul, iz_neg]) hv

def iv_X2_allPeople (q_people : (Nat → Int)) (post : Int → Unit → Prop) : Prop :=
  (∃ n_10, iv_X2_allPeople_L4 (fun k1_9 => post k1_9 ())  q_people n_10 0 0)

set_option maxHeartbeats 4000000 in
theorem lift_X2_allPeople {q_people' : (Nat → Int32)} {q_people : (Nat → Int)} (e_q_people : q_people' = az q_people) {post0 : Int32 → Unit → Prop} {post : Int → Unit → Prop} (hv : iv_X2_allPeople q_people post) (hp : ∀ (r : Int) (u : Unit) (x : Int32) (y : Unit), post r u → x = iz r → y = () → post0 x y) : vc_X2_allPeople q_people' post0 := by
  subst e_q_people
  rw [iv_X2_allPeople] at hv
  rw [vc_X2_allPeople]
  obtain ⟨n_10, hv⟩ := hv
  refine ⟨n_10, lift_X2_allPeople_L4 (by first | with_reducible rfl | simp only [zl, iz_add, iz_sub, iz_mul, iz_neg]) (fun y_11 k1_9 hv ey_12 => ?_)  n_10 _ _ 0 0 (by first | with_reducible rfl | simp only [zl, iz_add, iz_sub, iz_mul, iz_neg]) (by first | with_reducible rfl | simp only [zl, iz_add, iz_sub, iz_mul, iz_neg]) hv⟩
  subst ey_12
  exact hp _ _ _ _ hv (by first | with_reducible rfl | simp only [zl, iz_add, iz_sub, iz_mul, iz_neg]) (by first | with_reducible rfl | simp only [zl, iz_add, iz_sub, iz_mul, iz_neg])

def iv_X1_add (a1 : Int) (d_signs : (Nat → Int)) (d_size : Int) (post : ((Nat → Int) × Int) → Prop) : Prop :=
  ((sm 40 ∧ sm d_size) ∧ ((40 ≤ d_size → post (d_signs, d_size)) ∧ (¬ 40 ≤ d_size → ((0 ≤ d_size ∧ d_size < 40) ∧ post ((uz d_signs d_size.toNat a1), (d_size + 1))))))

set_option maxHeartbeats 4000000 in
theorem lift_X1_add {a1' : Int32} {a1 : Int} {d_signs' : (Nat → Int32)} {d_signs : (Nat → Int)} {d_size' : Int32} {d_size : Int} (e_a1 : a1' = iz a1) (e_d_signs : d_signs' = az d_signs) (e_d_size : d_size' = iz d_size) {post0 : ((Nat → Int32) × Int32) → Prop} {post : ((Nat → Int) × Int) → Prop} (hv : iv_X1_add a1 d_signs d_size post) (hp : ∀ (u : (Nat → Int) × Int) (y : (Nat → Int32) × Int32), post u → y = (az u.1, iz u.2) → post0 y) : vc_X1_add a1' d_signs' d_size' post0 := by
  subst e_a1
  subst e_d_signs
  subst e_d_size
  rw [iv_X1_add] at hv
  rw [vc_X1_add]
  obtain ⟨hs_1, hv⟩ := hv
  have q_2 := z_le (x := 40) (a := 40) (by first | with_reducible rfl | simp only [zl, iz_add, iz_sub, iz_mul, iz_neg]) (y := (iz d_size)) (b := d_size) (by first | with_reducible rfl | simp only [zl, iz_add, iz_sub, iz_mul, iz_neg]) hs_1.1 hs_1.2
  refine ⟨fun c9 => ?_, fun c9 => ?_⟩
  · have hv := hv.1 (q_2.mp c9)
    exact hp _ _ hv (by first | with_reducible rfl | simp only [zl, iz_add, iz_sub, iz_mul, iz_neg])
  · have hv := hv.2 (fun z9 => c9 (q_2.mpr z9))
    obtain ⟨hi_3, hv⟩ := hv
    refine ⟨z_in (by first | with_reducible rfl | simp only [zl, iz_add, iz_sub, iz_mul, iz_neg]) hi_3 (by decide), ?_⟩
    have e_4 : (upd (az d_signs) ((iz d_size)).toNatClampNeg (iz a1)) = az (uz d_signs d_size.toNat a1) := z_upd (by first | with_reducible rfl | simp only [zl, iz_add, iz_sub, iz_mul, iz_neg]) (by first | with_reducible rfl | simp only [zl, iz_add, iz_sub, iz_mul, iz_neg]) (by first | with_reducible rfl | simp only [zl, iz_add, iz_sub, iz_mul, iz_neg]) hi_3 (by decide)
    try rw [e_4]
    exact hp _ _ hv (by first | with_reducible rfl | simp only [zl, iz_add, iz_sub, iz_mul, iz_neg])

def iv_X4_isWithin (a0 : Int) (a1 : Int) (a2 : Int) (post : Int → Unit → Prop) : Prop :=
  ((sm a0 ∧ sm a1) ∧ ((a0 < a1 → post 0 ()) ∧ (¬ a0 < a1 → ((sm a2 ∧ sm a0) ∧ ((a2 < a0 → post 0 ()) ∧ (¬ a2 < a0 → post 1 ()))))))

set_option maxHeartbeats 4000000 in
theorem lift_X4_isWithin {a0' : Int32} {a0 : Int} {a1' : Int32} {a1 : Int} {a2' : Int32} {a2 : Int} (e_a0 : a0' = iz a0) (e_a1 : a1' = iz a1) (e_a2 : a2' = iz a2) {post0 : Int32 → Unit → Prop} {post : Int → Unit → Prop} (hv : iv_X4_isWithin a0 a1 a2 post) (hp : ∀ (r : Int) (u : Unit) (x : Int32) (y : Unit), post r u → x = iz r → y = () → post0 x y) : vc_X4_isWithin a0' a1' a2' post0 := by
  subst e_a0
  subst e_a1
  subst e_a2
  rw [iv_X4_isWithin] at hv
  rw [vc_X4_isWithin]
  obtain ⟨hs_1, hv⟩ := hv
  have q_2 := z_lt (x := (iz a0)) (a := a0) (by first | with_reducible rfl | simp only [zl, iz_add, iz_sub, iz_mul, iz_neg]) (y := (iz a1)) (b := a1) (by first | with_reducible rfl | simp only [zl, iz_add, iz_sub, iz_mul, iz_neg]) hs_1.1 hs_1.2
  refine ⟨fun c9 => ?_, fun c9 => ?_⟩
  · have hv := hv.1 (q_2.mp c9)
    exact hp _ _ _ _ hv (by first | with_reducible rfl | simp only [zl, iz_add, iz_sub, iz_mul, iz_neg]) (by first | with_reducible rfl | simp only [zl, iz_add, iz_sub, iz_mul, iz_neg])
  · have hv := hv.2 (fun z9 => c9 (q_2.mpr z9))
    obtain ⟨hs_3, hv⟩ := hv
    have q_4 := z_lt (x := (iz a2)) (a := a2) (by first | with_reducible rfl | simp only [zl, iz_add, iz_sub, iz_mul, iz_neg]) (y := (iz a0)) (b := a0) (by first | with_reducible rfl | simp only [zl, iz_add, iz_sub, iz_mul, iz_neg]) hs_3.1 hs_3.2
    refine ⟨fun c9 => ?_, fun c9 => ?_⟩
    · have hv := hv.1 (q_4.mp c9)
      exact hp _ _ _ _ hv (by first | with_reducible rfl | simp only [zl, iz_add, iz_sub, iz_mul, iz_neg]) (by first | with_reducible rfl | simp only [zl, iz_add, iz_sub, iz_mul, iz_neg])
    · have hv := hv.2 (fun z9 => c9 (q_4.mpr z9))
      exact hp _ _ _ _ hv (by first | with_reducible rfl | simp only [zl, iz_add, iz_sub, iz_mul, iz_neg]) (by first | with_reducible rfl | simp only [zl, iz_add, iz_sub, iz_mul, iz_neg])

def iv_X4_isRoom (a0 : Int) (post : Int → Unit → Prop) : Prop :=
  (iv_X4_isWithin a0 0 5 (fun (r_2 : Int) (u_1 : Unit) => ((r_2 = 0 ∨ r_2 = 1) ∧ post r_2 ())))

set_option maxHeartbeats 4000000 in
theorem lift_X4_isRoom {a0' : Int32} {a0 : Int} (e_a0 : a0' = iz a0) {post0 : Int32 → Unit → Prop} {post : Int → Unit → Prop} (hv : iv_X4_isRoom a0 post) (hp : ∀ (r : Int) (u : Unit) (x : Int32) (y : Unit), post r u → x = iz r → y = () → post0 x y) : vc_X4_isRoom a0' post0 := by
  subst e_a0
  rw [iv_X4_isRoom] at hv
  rw [vc_X4_isRoom]
  refine lift_X4_isWithin (by first | with_reducible rfl | simp only [zl, iz_add, iz_sub, iz_mul, iz_neg]) (by first | with_reducible rfl | simp only [zl, iz_add, iz_sub, iz_mul, iz_neg]) (by first | with_reducible rfl | simp only [zl, iz_add, iz_sub, iz_mul, iz_neg]) hv (fun r_2 u_1 y_3 y_4 hv er_5 eu_6 => ?_)
  subst er_5; subst eu_6
  try dsimp only
  refine ⟨z_nar (by first | with_reducible rfl | simp only [zl, iz_add, iz_sub, iz_mul, iz_neg]) hv.1, hp _ _ _ _ hv.2 (by first | with_reducible rfl | simp only [zl, iz_add, iz_sub, iz_mul, iz_neg]) (by first | with_reducible rfl | simp only [zl, iz_add, iz_sub, iz_mul, iz_neg])⟩

def iv_X1_canStand (a1 : Int) (d_signs : (Nat → Int)) (post : Int → Unit → Prop) : Prop :=
  ((0 ≤ a1 ∧ a1 < 40) ∧ (∀ x2_3 : Int, x2_3 = (d_signs a1.toNat) → ((zn a1) ∧ (∀ sw_7 : Int, sw_7 = (a1 - a1 / 4 * 4) → ((sm sw_7) ∧ ((sw_7 = 0 → (iv_X4_isRoom (x2_3 - 97) (fun (r_11 : Int) (u_10 : Unit) => ((r_11 = 0 ∨ r_11 = 1) ∧ post r_11 ())))) ∧ (sw_7 = 1 → (iv_X4_isRoom (x2_3 - 97) (fun (r_17 : Int) (u_16 : Unit) => ((sm r_17 ∧ sm 0) ∧ ((r_17 = 0 → post 0 ()) ∧ (¬ r_17 = 0 → ((0 ≤ (a1 - 1) ∧ (a1 - 1) < 40) ∧ ((sm x2_3 ∧ sm (d_signs ((a1 - 1)).toNat)) ∧ ((x2_3 = (d_signs ((a1 - 1)).toNat) → post 0 ()) ∧ (¬ x2_3 = (d_signs ((a1 - 1)).toNat) → post 1 ())))))))))) ∧ (sw_7 = 2 → (iv_X4_isWithin (x2_3 - 48) 1 6 (fun (r_29 : Int) (u_28 : Unit) => ((r_29 = 0 ∨ r_29 = 1) ∧ post r_29 ())))) ∧ (¬ sw_7 = 0 ∧ ¬ sw_7 = 1 ∧ ¬ sw_7 = 2 → (iv_X4_isWithin (x2_3 - 48) 1 4 (fun (r_35 : Int) (u_34 : Unit) => ((r_35 = 0 ∨ r_35 = 1) ∧ post r_35 ()))))))))))

set_option maxHeartbeats 4000000 in
theorem lift_X1_canStand {a1' : Int32} {a1 : Int} {d_signs' : (Nat → Int32)} {d_signs : (Nat → Int)} (e_a1 : a1' = iz a1) (e_d_signs : d_signs' = az d_signs) {post0 : Int32 → Unit → Prop} {post : Int → Unit → Prop} (hv : iv_X1_canStand a1 d_signs post) (hp : ∀ (r : Int) (u : Unit) (x : Int32) (y : Unit), post r u → x = iz r → y = () → post0 x y) : vc_X1_canStand a1' d_signs' post0 := by
  subst e_a1
  subst e_d_signs
  rw [iv_X1_canStand] at hv
  rw [vc_X1_canStand]
  obtain ⟨hi_1, hv⟩ := hv
  refine ⟨z_in (by first | with_reducible rfl | simp only [zl, iz_add, iz_sub, iz_mul, iz_neg]) hi_1 (by decide), ?_⟩
  have e_2 : ((az d_signs) ((iz a1)).toNatClampNeg) = iz (d_signs a1.toNat) := z_at (by first | with_reducible rfl | simp only [zl, iz_add, iz_sub, iz_mul, iz_neg]) (by first | with_reducible rfl | simp only [zl, iz_add, iz_sub, iz_mul, iz_neg]) hi_1 (by decide)
  try rw [e_2]
  intro y_4 hy_4
  obtain ⟨x2_3, hx2_3⟩ : ∃ z : Int, z = (d_signs a1.toNat) := ⟨_, rfl⟩
  have hv := hv x2_3 hx2_3
  have ey_4 : y_4 = iz x2_3 := by rw [hy_4, hx2_3]; try exact (by first | with_reducible rfl | simp only [zl, iz_add, iz_sub, iz_mul, iz_neg])
  subst ey_4
  obtain ⟨hc_5, hv⟩ := hv
  have e_6 : ((iz a1) - (iz a1) / 4 * 4) = iz (a1 - a1 / 4 * 4) := z_rem (by first | with_reducible rfl | simp only [zl, iz_add, iz_sub, iz_mul, iz_neg]) hc_5 (by decide) (by decide)
  try rw [e_6]
  intro y_8 hy_8
  obtain ⟨sw_7, hsw_7⟩ : ∃ z : Int, z = (a1 - a1 / 4 * 4) := ⟨_, rfl⟩
  have hv := hv sw_7 hsw_7
  have ey_8 : y_8 = iz sw_7 := by rw [hy_8, hsw_7]; try exact (by first | with_reducible rfl | simp only [zl, iz_add, iz_sub, iz_mul, iz_neg])
  subst ey_8
  obtain ⟨hc_9, hv⟩ := hv
  refine ⟨fun c9 => ?_, fun c9 => ?_, fun c9 => ?_, fun c9 => ?_⟩
  · have hv := hv.1 ((z_eq (x := (iz sw_7)) (y := 0) (a := sw_7) (b := 0) rfl rfl hc_9 (by unfold sm; omega)).mp c9)
    refine lift_X4_isRoom (by first | with_reducible rfl | simp only [zl, iz_add, iz_sub, iz_mul, iz_neg]) hv (fun r_11 u_10 y_12 y_13 hv er_14 eu_15 => ?_)
    subst er_14; subst eu_15
    try dsimp only
    refine ⟨z_nar (by first | with_reducible rfl | simp only [zl, iz_add, iz_sub, iz_mul, iz_neg]) hv.1, hp _ _ _ _ hv.2 (by first | with_reducible rfl | simp only [zl, iz_add, iz_sub, iz_mul, iz_neg]) (by first | with_reducible rfl | simp only [zl, iz_add, iz_sub, iz_mul, iz_neg])⟩
  · have hv := hv.2.1 ((z_eq (x := (iz sw_7)) (y := 1) (a := sw_7) (b := 1) rfl rfl hc_9 (by unfold sm; omega)).mp c9)
    refine lift_X4_isRoom (by first | with_reducible rfl | simp only [zl, iz_add, iz_sub, iz_mul, iz_neg]) hv (fun r_17 u_16 y_18 y_19 hv er_20 eu_21 => ?_)
    subst er_20; subst eu_21
    try dsimp only
    obtain ⟨hs_22, hv⟩ := hv
    have q_23 := z_eq (x := (iz r_17)) (a := r_17) (by first | with_reducible rfl | simp only [zl, iz_add, iz_sub, iz_mul, iz_neg]) (y := 0) (b := 0) (by first | with_reducible rfl | simp only [zl, iz_add, iz_sub, iz_mul, iz_neg]) hs_22.1 hs_22.2
    refine ⟨fun c9 => ?_, fun c9 => ?_⟩
    · have hv := hv.1 (q_23.mp c9)
      exact hp _ _ _ _ hv (by first | with_reducible rfl | simp only [zl, iz_add, iz_sub, iz_mul, iz_neg]) (by first | with_reducible rfl | simp only [zl, iz_add, iz_sub, iz_mul, iz_neg])
    · have hv := hv.2 (fun z9 => c9 (q_23.mpr z9))
      obtain ⟨hi_24, hv⟩ := hv
      refine ⟨z_in (by first | with_reducible rfl | simp only [zl, iz_add, iz_sub, iz_mul, iz_neg]) hi_24 (by decide), ?_⟩
      have e_25 : ((az d_signs) (((iz a1) - 1)).toNatClampNeg) = iz (d_signs ((a1 - 1)).toNat) := z_at (by first | with_reducible rfl | simp only [zl, iz_add, iz_sub, iz_mul, iz_neg]) (by first | with_reducible rfl | simp only [zl, iz_add, iz_sub, iz_mul, iz_neg]) hi_24 (by decide)
      try rw [e_25]
      obtain ⟨hs_26, hv⟩ := hv
      have q_27 := z_eq (x := (iz x2_3)) (a := x2_3) (by first | with_reducible rfl | simp only [zl, iz_add, iz_sub, iz_mul, iz_neg]) (y := (iz (d_signs ((a1 - 1)).toNat))) (b := (d_signs ((a1 - 1)).toNat)) (by first | with_reducible rfl | simp only [zl, iz_add, iz_sub, iz_mul, iz_neg]) hs_26.1 hs_26.2
      refine ⟨fun c9 => ?_, fun c9 => ?_⟩
      · have hv := hv.1 (q_27.mp c9)
        exact hp _ _ _ _ hv (by first | with_reducible rfl | simp only [zl, iz_add, iz_sub, iz_mul, iz_neg]) (by first | with_reducible rfl | simp only [zl, iz_add, iz_sub, iz_mul, iz_neg])
      · have hv := hv.2 (fun z9 => c9 (q_27.mpr z9))
        exact hp _ _ _ _ hv (by first | with_reducible rfl | simp only [zl, iz_add, iz_sub, iz_mul, iz_neg]) (by first | with_reducible rfl | simp only [zl, iz_add, iz_sub, iz_mul, iz_neg])
  · have hv := hv.2.2.1 ((z_eq (x := (iz sw_7)) (y := 2) (a := sw_7) (b := 2) rfl rfl hc_9 (by unfold sm; omega)).mp c9)
    refine lift_X4_isWithin (by first | with_reducible rfl | simp only [zl, iz_add, iz_sub, iz_mul, iz_neg]) (by first | with_reducible rfl | simp only [zl, iz_add, iz_sub, iz_mul, iz_neg]) (by first | with_reducible rfl | simp only [zl, iz_add, iz_sub, iz_mul, iz_neg]) hv (fun r_29 u_28 y_30 y_31 hv er_32 eu_33 => ?_)
    subst er_32; subst eu_33
    try dsimp only
    refine ⟨z_nar (by first | with_reducible rfl | simp only [zl, iz_add, iz_sub, iz_mul, iz_neg]) hv.1, hp _ _ _ _ hv.2 (by first | with_reducible rfl | simp only [zl, iz_add, iz_sub, iz_mul, iz_neg]) (by first | with_reducible rfl | simp only [zl, iz_add, iz_sub, iz_mul, iz_neg])⟩
  · have hv := hv.2.2.2 ⟨fun z9 => c9.1 ((z_eq (x := (iz sw_7)) (y := 0) (a := sw_7) (b := 0) rfl rfl hc_9 (by unfold sm; omega)).mpr z9), fun z9 => c9.2.1 ((z_eq (x := (iz sw_7)) (y := 1) (a := sw_7) (b := 1) rfl rfl hc_9 (by unfold sm; omega)).mpr z9), fun z9 => c9.2.2 ((z_eq (x := (iz sw_7)) (y := 2) (a := sw_7) (b := 2) rfl rfl hc_9 (by unfold sm; omega)).mpr z9)⟩
    refine lift_X4_isWithin (by first | with_reducible rfl | simp only [zl, iz_add, iz_sub, iz_mul, iz_neg]) (by first | with_reducible rfl | simp only [zl, iz_add, iz_sub, iz_mul, iz_neg]) (by first | with_reducible rfl | simp only [zl, iz_add, iz_sub, iz_mul, iz_neg]) hv (fun r_35 u_34 y_36 y_37 hv er_38 eu_39 => ?_)
    subst er_38; subst eu_39
    try dsimp only
    refine ⟨z_nar (by first | with_reducible rfl | simp only [zl, iz_add, iz_sub, iz_mul, iz_neg]) hv.1, hp _ _ _ _ hv.2 (by first | with_reducible rfl | simp only [zl, iz_add, iz_sub, iz_mul, iz_neg]) (by first | with_reducible rfl | simp only [zl, iz_add, iz_sub, iz_mul, iz_neg])⟩

def iv_X1_faultPlace_L2 (K : Prop) (post : Int → Unit → Prop) (d_signs : (Nat → Int)) (d_size : Int) : Nat → Int → Prop
  | 0, _ => False
  | n + 1, v1 =>
    ((sm d_size ∧ sm v1) ∧ ((d_size ≤ v1 → K) ∧ (¬ d_size ≤ v1 → (iv_X1_canStand v1 d_signs (fun (r_4 : Int) (u_3 : Unit) => ((sm r_4 ∧ sm 0) ∧ ((¬ r_4 = 0 → (∀ x1_11 : Int, x1_11 = v1 + 1 → iv_X1_faultPlace_L2 K post d_signs d_size n x1_11)) ∧ (r_4 = 0 → post v1 ()))))))))

set_option maxHeartbeats 4000000 in
theorem lift_X1_faultPlace_L2 {K0 : Prop} {K : Prop} {post0 : Int32 → Unit → Prop} {post : Int → Unit → Prop} {d_signs' : (Nat → Int32)} {d_signs : (Nat → Int)} {d_size' : Int32} {d_size : Int} (e_d_signs : d_signs' = az d_signs) (e_d_size : d_size' = iz d_size)  (hKx : K → K0) (hp : ∀ (r : Int) (u : Unit) (x : Int32) (y : Unit), post r u → x = iz r → y = () → post0 x y) :
    ∀ (n : Nat) (v1' : Int32) (v1 : Int) (e_v1 : v1' = iz v1), iv_X1_faultPlace_L2 K post d_signs d_size n v1 → vc_X1_faultPlace_L2 K0 post0 d_signs' d_size' n v1' := by
  subst e_d_signs
  subst e_d_size
  intro n
  induction n with
  | zero =>
    intro v1' v1 e_v1 hv
    exact False.elim hv
  | succ n ih =>
    intro v1' v1 e_v1 hv
    subst e_v1
    rw [iv_X1_faultPlace_L2] at hv
    rw [vc_X1_faultPlace_L2]
    obtain ⟨hs_1, hv⟩ := hv
    have q_2 := z_le (x := (iz d_size)) (a := d_size) (by first | with_reducible rfl | simp only [zl, iz_add, iz_sub, iz_mul, iz_neg]) (y := (iz v1)) (b := v1) (by first | with_reducible rfl | simp only [zl, iz_add, iz_sub, iz_mul, iz_neg]) hs_1.1 hs_1.2
    refine ⟨fun c9 => ?_, fun c9 => ?_⟩
    · have hv := hv.1 (q_2.mp c9)
      exact hKx   hv 
    · have hv := hv.2 (fun z9 => c9 (q_2.mpr z9))
      refine lift_X1_canStand (by first | with_reducible rfl | simp only [zl, iz_add, iz_sub, iz_mul, iz_neg]) (by first | with_reducible rfl | simp only [zl, iz_add, iz_sub, iz_mul, iz_neg]) hv (fun r_4 u_3 y_5 y_6 hv er_7 eu_8 => ?_)
      subst er_7; subst eu_8
      try dsimp only
      obtain ⟨hs_9, hv⟩ := hv
      have q_10 := z_eq (x := (iz r_4)) (a := r_4) (by first | with_reducible rfl | simp only [zl, iz_add, iz_sub, iz_mul, iz_neg]) (y := 0) (b := 0) (by first | with_reducible rfl | simp only [zl, iz_add, iz_sub, iz_mul, iz_neg]) hs_9.1 hs_9.2
      refine ⟨fun c9 => ?_, fun c9 => ?_⟩
      · have hv := hv.1 (fun z9 => c9 (q_10.mpr z9))
        intro y_12 hy_12
        obtain ⟨x1_11, hx1_11⟩ : ∃ z : Int, z = v1 + 1 := ⟨_, rfl⟩
        have hv := hv x1_11 hx1_11
        have ey_12 : y_12 = iz x1_11 := by rw [hy_12, hx1_11]; try exact (by first | with_reducible rfl | simp only [zl, iz_add, iz_sub, iz_mul, iz_neg])
        subst ey_12
        exact ih _ x1_11 (by first | with_reducible rfl | simp only [zl, iz_add, iz_sub, iz_mul, iz_neg]) hv
      · have hv := hv.2 (q_10.mp c9)
        exact hp _ _ _ _ hv (by first | with_reducible rfl | simp only [zl, iz_add, iz_sub, iz_mul, iz_neg]) (by first | with_reducible rfl | simp only [zl, iz_add, iz_sub, iz_mul, iz_neg])

def iv_X1_faultPlace (d_signs : (Nat → Int)) (d_size : Int) (post : Int → Unit → Prop) : Prop :=
  (∃ n_17, iv_X1_faultPlace_L2 (((zn d_size) ∧ ((sm (d_size - d_size / 4 * 4) ∧ sm 0) ∧ ((¬ (d_size - d_size / 4 * 4) = 0 → post d_size ()) ∧ ((d_size - d_size / 4 * 4) = 0 → post (-6) ()))))) post d_signs d_size n_17 0)

set_option maxHeartbeats 4000000 in
theorem lift_X1_faultPlace {d_signs' : (Nat → Int32)} {d_signs : (Nat → Int)} {d_size' : Int32} {d_size : Int} (e_d_signs : d_signs' = az d_signs) (e_d_size : d_size' = iz d_size) {post0 : Int32 → Unit → Prop} {post : Int → Unit → Prop} (hv : iv_X1_faultPlace d_signs d_size post) (hp : ∀ (r : Int) (u : Unit) (x : Int32) (y : Unit), post r u → x = iz r → y = () → post0 x y) : vc_X1_faultPlace d_signs' d_size' post0 := by
  subst e_d_signs
  subst e_d_size
  rw [iv_X1_faultPlace] at hv
  rw [vc_X1_faultPlace]
  obtain ⟨n_17, hv⟩ := hv
  refine ⟨n_17, lift_X1_faultPlace_L2 (by first | with_reducible rfl | simp only [zl, iz_add, iz_sub, iz_mul, iz_neg]) (by first | with_reducible rfl | simp only [zl, iz_add, iz_sub, iz_mul, iz_neg]) (fun   hv  => ?_) hp n_17 _ 0 (by first | with_reducible rfl | simp only [zl, iz_add, iz_sub, iz_mul, iz_neg]) hv⟩
  obtain ⟨hc_13, hv⟩ := hv
  have e_14 : ((iz d_size) - (iz d_size) / 4 * 4) = iz (d_size - d_size / 4 * 4) := z_rem (by first | with_reducible rfl | simp only [zl, iz_add, iz_sub, iz_mul, iz_neg]) hc_13 (by decide) (by decide)
  try rw [e_14]
  obtain ⟨hs_15, hv⟩ := hv
  have q_16 := z_eq (x := (iz (d_size - d_size / 4 * 4))) (a := (d_size - d_size / 4 * 4)) (by first | with_reducible rfl | simp only [zl, iz_add, iz_sub, iz_mul, iz_neg]) (y := 0) (b := 0) (by first | with_reducible rfl | simp only [zl, iz_add, iz_sub, iz_mul, iz_neg]) hs_15.1 hs_15.2
  refine ⟨fun c9 => ?_, fun c9 => ?_⟩
  · have hv := hv.1 (fun z9 => c9 (q_16.mpr z9))
    exact hp _ _ _ _ hv (by first | with_reducible rfl | simp only [zl, iz_add, iz_sub, iz_mul, iz_neg]) (by first | with_reducible rfl | simp only [zl, iz_add, iz_sub, iz_mul, iz_neg])
  · have hv := hv.2 (q_16.mp c9)
    exact hp _ _ _ _ hv (by first | with_reducible rfl | simp only [zl, iz_add, iz_sub, iz_mul, iz_neg]) (by first | with_reducible rfl | simp only [zl, iz_add, iz_sub, iz_mul, iz_neg])

def iv_X2_addPassage (a1 : Int) (a2 : Int) (a3 : Int) (a4 : Int) (q_passages : Int) (q_from : (Nat → Int)) (q_to : (Nat → Int)) (q_width : (Nat → Int)) (q_length : (Nat → Int)) (q_shut : (Nat → Int)) (post : (Int × (Nat → Int) × (Nat → Int) × (Nat → Int) × (Nat → Int) × (Nat → Int)) → Prop) : Prop :=
  ((sm q_passages ∧ sm 10) ∧ ((q_passages < 10 → ((0 ≤ q_passages ∧ q_passages < 10) ∧ ((0 ≤ q_passages ∧ q_passages < 10) ∧ ((0 ≤ q_passages ∧ q_passages < 10) ∧ ((0 ≤ q_passages ∧ q_passages < 10) ∧ ((0 ≤ q_passages ∧ q_passages < 10) ∧ post ((q_passages + 1), (uz q_from q_passages.toNat a1), (uz q_to q_passages.toNat a2), (uz q_width q_passages.toNat a3), (uz q_length q_passages.toNat a4), (uz q_shut q_passages.toNat 1000)))))))) ∧ (¬ q_passages < 10 → post (q_passages, q_from, q_to, q_width, q_length, q_shut))))

set_option maxHeartbeats 4000000 in
theorem lift_X2_addPassage {a1' : Int32} {a1 : Int} {a2' : Int32} {a2 : Int} {a3' : Int32} {a3 : Int} {a4' : Int32} {a4 : Int} {q_passages' : Int32} {q_passages : Int} {q_from' : (Nat → Int32)} {q_from : (Nat → Int)} {q_to' : (Nat → Int32)} {q_to : (Nat → Int)} {q_width' : (Nat → Int32)} {q_width : (Nat → Int)} {q_length' : (Nat → Int32)} {q_length : (Nat → Int)} {q_shut' : (Nat → Int32)} {q_shut : (Nat → Int)} (e_a1 : a1' = iz a1) (e_a2 : a2' = iz a2) (e_a3 : a3' = iz a3) (e_a4 : a4' = iz a4) (e_q_passages : q_passages' = iz q_passages) (e_q_from : q_from' = az q_from) (e_q_to : q_to' = az q_to) (e_q_width : q_width' = az q_width) (e_q_length : q_length' = az q_length) (e_q_shut : q_shut' = az q_shut) {post0 : (Int32 × (Nat → Int32) × (Nat → Int32) × (Nat → Int32) × (Nat → Int32) × (Nat → Int32)) → Prop} {post : (Int × (Nat → Int) × (Nat → Int) × (Nat → Int) × (Nat → Int) × (Nat → Int)) → Prop} (hv : iv_X2_addPassage a1 a2 a3 a4 q_passages q_from q_to q_width q_length q_shut post) (hp : ∀ (u : Int × (Nat → Int) × (Nat → Int) × (Nat → Int) × (Nat → Int) × (Nat → Int)) (y : Int32 × (Nat → Int32) × (Nat → Int32) × (Nat → Int32) × (Nat → Int32) × (Nat → Int32)), post u → y = (iz u.1, az u.2.1, az u.2.2.1, az u.2.2.2.1, az u.2.2.2.2.1, az u.2.2.2.2.2) → post0 y) : vc_X2_addPassage a1' a2' a3' a4' q_passages' q_from' q_to' q_width' q_length' q_shut' post0 := by
  subst e_a1
  subst e_a2
  subst e_a3
  subst e_a4
  subst e_q_passages
  subst e_q_from
  subst e_q_to
  subst e_q_width
  subst e_q_length
  subst e_q_shut
  rw [iv_X2_addPassage] at hv
  rw [vc_X2_addPassage]
  obtain ⟨hs_1, hv⟩ := hv
  have q_2 := z_lt (x := (iz q_passages)) (a := q_passages) (by first | with_reducible rfl | simp only [zl, iz_add, iz_sub, iz_mul, iz_neg]) (y := 10) (b := 10) (by first | with_reducible rfl | simp only [zl, iz_add, iz_sub, iz_mul, iz_neg]) hs_1.1 hs_1.2
  refine ⟨fun c9 => ?_, fun c9 => ?_⟩
  · have hv := hv.1 (q_2.mp c9)
    obtain ⟨hi_3, hv⟩ := hv
    refine ⟨z_in (by first | with_reducible rfl | simp only [zl, iz_add, iz_sub, iz_mul, iz_neg]) hi_3 (by decide), ?_⟩
    have e_4 : (upd (az q_from) ((iz q_passages)).toNatClampNeg (iz a1)) = az (uz q_from q_passages.toNat a1) := z_upd (by first | with_reducible rfl | simp only [zl, iz_add, iz_sub, iz_mul, iz_neg]) (by first | with_reducible rfl | simp only [zl, iz_add, iz_sub, iz_mul, iz_neg]) (by first | with_reducible rfl | simp only [zl, iz_add, iz_sub, iz_mul, iz_neg]) hi_3 (by decide)
    try rw [e_4]
    obtain ⟨hi_5, hv⟩ := hv
    refine ⟨z_in (by first | with_reducible rfl | simp only [zl, iz_add, iz_sub, iz_mul, iz_neg]) hi_5 (by decide), ?_⟩
    have e_6 : (upd (az q_to) ((iz q_passages)).toNatClampNeg (iz a2)) = az (uz q_to q_passages.toNat a2) := z_upd (by first | with_reducible rfl | simp only [zl, iz_add, iz_sub, iz_mul, iz_neg]) (by first | with_reducible rfl | simp only [zl, iz_add, iz_sub, iz_mul, iz_neg]) (by first | with_reducible rfl | simp only [zl, iz_add, iz_sub, iz_mul, iz_neg]) hi_5 (by decide)
    try rw [e_6]
    obtain ⟨hi_7, hv⟩ := hv
    refine ⟨z_in (by first | with_reducible rfl | simp only [zl, iz_add, iz_sub, iz_mul, iz_neg]) hi_7 (by decide), ?_⟩
    have e_8 : (upd (az q_width) ((iz q_passages)).toNatClampNeg (iz a3)) = az (uz q_width q_passages.toNat a3) := z_upd (by first | with_reducible rfl | simp only [zl, iz_add, iz_sub, iz_mul, iz_neg]) (by first | with_reducible rfl | simp only [zl, iz_add, iz_sub, iz_mul, iz_neg]) (by first | with_reducible rfl | simp only [zl, iz_add, iz_sub, iz_mul, iz_neg]) hi_7 (by decide)
    try rw [e_8]
    obtain ⟨hi_9, hv⟩ := hv
    refine ⟨z_in (by first | with_reducible rfl | simp only [zl, iz_add, iz_sub, iz_mul, iz_neg]) hi_9 (by decide), ?_⟩
    have e_10 : (upd (az q_length) ((iz q_passages)).toNatClampNeg (iz a4)) = az (uz q_length q_passages.toNat a4) := z_upd (by first | with_reducible rfl | simp only [zl, iz_add, iz_sub, iz_mul, iz_neg]) (by first | with_reducible rfl | simp only [zl, iz_add, iz_sub, iz_mul, iz_neg]) (by first | with_reducible rfl | simp only [zl, iz_add, iz_sub, iz_mul, iz_neg]) hi_9 (by decide)
    try rw [e_10]
    obtain ⟨hi_11, hv⟩ := hv
    refine ⟨z_in (by first | with_reducible rfl | simp only [zl, iz_add, iz_sub, iz_mul, iz_neg]) hi_11 (by decide), ?_⟩
    have e_12 : (upd (az q_shut) ((iz q_passages)).toNatClampNeg 1000) = az (uz q_shut q_passages.toNat 1000) := z_upd (by first | with_reducible rfl | simp only [zl, iz_add, iz_sub, iz_mul, iz_neg]) (by first | with_reducible rfl | simp only [zl, iz_add, iz_sub, iz_mul, iz_neg]) (by first | with_reducible rfl | simp only [zl, iz_add, iz_sub, iz_mul, iz_neg]) hi_11 (by decide)
    try rw [e_12]
    exact hp _ _ hv (by first | with_reducible rfl | simp only [zl, iz_add, iz_sub, iz_mul, iz_neg])
  · have hv := hv.2 (fun z9 => c9 (q_2.mpr z9))
    exact hp _ _ hv (by first | with_reducible rfl | simp only [zl, iz_add, iz_sub, iz_mul, iz_neg])

def iv_X1_moveInto_L2 (K : Int → (Nat → Int) → (Nat → Int) → (Nat → Int) → (Nat → Int) → (Nat → Int) → Prop) (d_signs : (Nat → Int)) (d_size : Int) : Nat → Int → Int → (Nat → Int) → (Nat → Int) → (Nat → Int) → (Nat → Int) → (Nat → Int) → Prop
  | 0, _, _, _, _, _, _, _ => False
  | n + 1, v2, q_passages, q_from, q_to, q_width, q_length, q_shut =>
    ((sm d_size ∧ sm (v2 + 3)) ∧ ((d_size ≤ (v2 + 3) → K q_passages q_from q_to q_width q_length q_shut) ∧ (¬ d_size ≤ (v2 + 3) → ((0 ≤ v2 ∧ v2 < 40) ∧ ((0 ≤ (v2 + 1) ∧ (v2 + 1) < 40) ∧ ((0 ≤ (v2 + 2) ∧ (v2 + 2) < 40) ∧ ((0 ≤ (v2 + 3) ∧ (v2 + 3) < 40) ∧ (iv_X2_addPassage ((d_signs v2.toNat) - 97) ((d_signs ((v2 + 1)).toNat) - 97) ((d_signs ((v2 + 2)).toNat) - 48) ((d_signs ((v2 + 3)).toNat) - 48) q_passages q_from q_to q_width q_length q_shut (fun (u_11 : Int × (Nat → Int) × (Nat → Int) × (Nat → Int) × (Nat → Int) × (Nat → Int)) => (∀ x2_16 : Int, x2_16 = v2 + 4 → iv_X1_moveInto_L2 K d_signs d_size n x2_16 u_11.1 u_11.2.1 u_11.2.2.1 u_11.2.2.2.1 u_11.2.2.2.2.1 u_11.2.2.2.2.2))))))))))

set_option maxHeartbeats 4000000 in
theorem lift_X1_moveInto_L2 {K0 : Int32 → (Nat → Int32) → (Nat → Int32) → (Nat → Int32) → (Nat → Int32) → (Nat → Int32) → Prop} {K : Int → (Nat → Int) → (Nat → Int) → (Nat → Int) → (Nat → Int) → (Nat → Int) → Prop} {d_signs' : (Nat → Int32)} {d_signs : (Nat → Int)} {d_size' : Int32} {d_size : Int} (e_d_signs : d_signs' = az d_signs) (e_d_size : d_size' = iz d_size)  (hKx : ∀ (k_q_passages' : Int32) (k_q_from' : (Nat → Int32)) (k_q_to' : (Nat → Int32)) (k_q_width' : (Nat → Int32)) (k_q_length' : (Nat → Int32)) (k_q_shut' : (Nat → Int32)) (k_q_passages : Int) (k_q_from : (Nat → Int)) (k_q_to : (Nat → Int)) (k_q_width : (Nat → Int)) (k_q_length : (Nat → Int)) (k_q_shut : (Nat → Int)), K k_q_passages k_q_from k_q_to k_q_width k_q_length k_q_shut → k_q_passages' = iz k_q_passages → k_q_from' = az k_q_from → k_q_to' = az k_q_to → k_q_width' = az k_q_width → k_q_length' = az k_q_length → k_q_shut' = az k_q_shut →  K0 k_q_passages' k_q_from' k_q_to' k_q_width' k_q_length' k_q_shut') :
    ∀ (n : Nat) (v2' : Int32) (q_passages' : Int32) (q_from' : (Nat → Int32)) (q_to' : (Nat → Int32)) (q_width' : (Nat → Int32)) (q_length' : (Nat → Int32)) (q_shut' : (Nat → Int32)) (v2 : Int) (q_passages : Int) (q_from : (Nat → Int)) (q_to : (Nat → Int)) (q_width : (Nat → Int)) (q_length : (Nat → Int)) (q_shut : (Nat → Int)) (e_v2 : v2' = iz v2) (e_q_passages : q_passages' = iz q_passages) (e_q_from : q_from' = az q_from) (e_q_to : q_to' = az q_to) (e_q_width : q_width' = az q_width) (e_q_length : q_length' = az q_length) (e_q_shut : q_shut' = az q_shut), iv_X1_moveInto_L2 K d_signs d_size n v2 q_passages q_from q_to q_width q_length q_shut → vc_X1_moveInto_L2 K0 d_signs' d_size' n v2' q_passages' q_from' q_to' q_width' q_length' q_shut' := by
  subst e_d_signs
  subst e_d_size
  intro n
  induction n with
  | zero =>
    intro v2' q_passages' q_from' q_to' q_width' q_length' q_shut' v2 q_passages q_from q_to q_width q_length q_shut e_v2 e_q_passages e_q_from e_q_to e_q_width e_q_length e_q_shut hv
    exact False.elim hv
  | succ n ih =>
    intro v2' q_passages' q_from' q_to' q_width' q_length' q_shut' v2 q_passages q_from q_to q_width q_length q_shut e_v2 e_q_passages e_q_from e_q_to e_q_width e_q_length e_q_shut hv
    subst e_v2
    subst e_q_passages
    subst e_q_from
    subst e_q_to
    subst e_q_width
    subst e_q_length
    subst e_q_shut
    rw [iv_X1_moveInto_L2] at hv
    rw [vc_X1_moveInto_L2]
    obtain ⟨hs_1, hv⟩ := hv
    have q_2 := z_le (x := (iz d_size)) (a := d_size) (by first | with_reducible rfl | simp only [zl, iz_add, iz_sub, iz_mul, iz_neg]) (y := ((iz v2) + 3)) (b := (v2 + 3)) (by first | with_reducible rfl | simp only [zl, iz_add, iz_sub, iz_mul, iz_neg]) hs_1.1 hs_1.2
    refine ⟨fun c9 => ?_, fun c9 => ?_⟩
    · have hv := hv.1 (q_2.mp c9)
      exact hKx _ _ _ _ _ _ q_passages q_from q_to q_width q_length q_shut hv (by first | with_reducible rfl | simp only [zl, iz_add, iz_sub, iz_mul, iz_neg]) (by first | with_reducible rfl | simp only [zl, iz_add, iz_sub, iz_mul, iz_neg]) (by first | with_reducible rfl | simp only [zl, iz_add, iz_sub, iz_mul, iz_neg]) (by first | with_reducible rfl | simp only [zl, iz_add, iz_sub, iz_mul, iz_neg]) (by first | with_reducible rfl | simp only [zl, iz_add, iz_sub, iz_mul, iz_neg]) (by first | with_reducible rfl | simp only [zl, iz_add, iz_sub, iz_mul, iz_neg])
    · have hv := hv.2 (fun z9 => c9 (q_2.mpr z9))
      obtain ⟨hi_3, hv⟩ := hv
      refine ⟨z_in (by first | with_reducible rfl | simp only [zl, iz_add, iz_sub, iz_mul, iz_neg]) hi_3 (by decide), ?_⟩
      have e_4 : ((az d_signs) ((iz v2)).toNatClampNeg) = iz (d_signs v2.toNat) := z_at (by first | with_reducible rfl | simp only [zl, iz_add, iz_sub, iz_mul, iz_neg]) (by first | with_reducible rfl | simp only [zl, iz_add, iz_sub, iz_mul, iz_neg]) hi_3 (by decide)
      try rw [e_4]
      obtain ⟨hi_5, hv⟩ := hv
      refine ⟨z_in (by first | with_reducible rfl | simp only [zl, iz_add, iz_sub, iz_mul, iz_neg]) hi_5 (by decide), ?_⟩
      have e_6 : ((az d_signs) (((iz v2) + 1)).toNatClampNeg) = iz (d_signs ((v2 + 1)).toNat) := z_at (by first | with_reducible rfl | simp only [zl, iz_add, iz_sub, iz_mul, iz_neg]) (by first | with_reducible rfl | simp only [zl, iz_add, iz_sub, iz_mul, iz_neg]) hi_5 (by decide)
      try rw [e_6]
      obtain ⟨hi_7, hv⟩ := hv
      refine ⟨z_in (by first | with_reducible rfl | simp only [zl, iz_add, iz_sub, iz_mul, iz_neg]) hi_7 (by decide), ?_⟩
      have e_8 : ((az d_signs) (((iz v2) + 2)).toNatClampNeg) = iz (d_signs ((v2 + 2)).toNat) := z_at (by first | with_reducible rfl | simp only [zl, iz_add, iz_sub, iz_mul, iz_neg]) (by first | with_reducible rfl | simp only [zl, iz_add, iz_sub, iz_mul, iz_neg]) hi_7 (by decide)
      try rw [e_8]
      obtain ⟨hi_9, hv⟩ := hv
      refine ⟨z_in (by first | with_reducible rfl | simp only [zl, iz_add, iz_sub, iz_mul, iz_neg]) hi_9 (by decide), ?_⟩
      have e_10 : ((az d_signs) (((iz v2) + 3)).toNatClampNeg) = iz (d_signs ((v2 + 3)).toNat) := z_at (by first | with_reducible rfl | simp only [zl, iz_add, iz_sub, iz_mul, iz_neg]) (by first | with_reducible rfl | simp only [zl, iz_add, iz_sub, iz_mul, iz_neg]) hi_9 (by decide)
      try rw [e_10]
      refine lift_X2_addPassage (by first | with_reducible rfl | simp only [zl, iz_add, iz_sub, iz_mul, iz_neg]) (by first | with_reducible rfl | simp only [zl, iz_add, iz_sub, iz_mul, iz_neg]) (by first | with_reducible rfl | simp only [zl, iz_add, iz_sub, iz_mul, iz_neg]) (by first | with_reducible rfl | simp only [zl, iz_add, iz_sub, iz_mul, iz_neg]) (by first | with_reducible rfl | simp only [zl, iz_add, iz_sub, iz_mul, iz_neg]) (by first | with_reducible rfl | simp only [zl, iz_add, iz_sub, iz_mul, iz_neg]) (by first | with_reducible rfl | simp only [zl, iz_add, iz_sub, iz_mul, iz_neg]) (by first | with_reducible rfl | simp only [zl, iz_add, iz_sub, iz_mul, iz_neg]) (by first | with_reducible rfl | simp only [zl, iz_add, iz_sub, iz_mul, iz_neg]) (by first | with_reducible rfl | simp only [zl, iz_add, iz_sub, iz_mul, iz_neg]) hv (fun u_11 y_13 hv eu_15 => ?_)
      subst eu_15
      try dsimp only
      intro y_17 hy_17
      obtain ⟨x2_16, hx2_16⟩ : ∃ z : Int, z = v2 + 4 := ⟨_, rfl⟩
      have hv := hv x2_16 hx2_16
      have ey_17 : y_17 = iz x2_16 := by rw [hy_17, hx2_16]; try exact (by first | with_reducible rfl | simp only [zl, iz_add, iz_sub, iz_mul, iz_neg])
      subst ey_17
      exact ih _ _ _ _ _ _ _ x2_16 u_11.1 u_11.2.1 u_11.2.2.1 u_11.2.2.2.1 u_11.2.2.2.2.1 u_11.2.2.2.2.2 (by first | with_reducible rfl | simp only [zl, iz_add, iz_sub, iz_mul, iz_neg]) (by first | with_reducible rfl | simp only [zl, iz_add, iz_sub, iz_mul, iz_neg]) (by first | with_reducible rfl | simp only [zl, iz_add, iz_sub, iz_mul, iz_neg]) (by first | with_reducible rfl | simp only [zl, iz_add, iz_sub, iz_mul, iz_neg]) (by first | with_reducible rfl | simp only [zl, iz_add, iz_sub, iz_mul, iz_neg]) (by first | with_reducible rfl | simp only [zl, iz_add, iz_sub, iz_mul, iz_neg]) (by first | with_reducible rfl | simp only [zl, iz_add, iz_sub, iz_mul, iz_neg]) hv

def iv_X1_moveInto (d_signs : (Nat → Int)) (d_size : Int) (q_passages : Int) (q_from : (Nat → Int)) (q_to : (Nat → Int)) (q_width : (Nat → Int)) (q_length : (Nat → Int)) (q_shut : (Nat → Int)) (post : (Int × Int × (Nat → Int) × (Nat → Int) × (Nat → Int) × (Nat → Int) × (Nat → Int)) → Prop) : Prop :=
  (∃ n_24, iv_X1_moveInto_L2 (fun q_passages_18 q_from_19 q_to_20 q_width_21 q_length_22 q_shut_23 => post (0, q_passages_18, q_from_19, q_to_20, q_width_21, q_length_22, q_shut_23))  d_signs d_size n_24 0 q_passages q_from q_to q_width q_length q_shut)

set_option maxHeartbeats 4000000 in
theorem lift_X1_moveInto {d_signs' : (Nat → Int32)} {d_signs : (Nat → Int)} {d_size' : Int32} {d_size : Int} {q_passages' : Int32} {q_passages : Int} {q_from' : (Nat → Int32)} {q_from : (Nat → Int)} {q_to' : (Nat → Int32)} {q_to : (Nat → Int)} {q_width' : (Nat → Int32)} {q_width : (Nat → Int)} {q_length' : (Nat → Int32)} {q_length : (Nat → Int)} {q_shut' : (Nat → Int32)} {q_shut : (Nat → Int)} (e_d_signs : d_signs' = az d_signs) (e_d_size : d_size' = iz d_size) (e_q_passages : q_passages' = iz q_passages) (e_q_from : q_from' = az q_from) (e_q_to : q_to' = az q_to) (e_q_width : q_width' = az q_width) (e_q_length : q_length' = az q_length) (e_q_shut : q_shut' = az q_shut) {post0 : (Int32 × Int32 × (Nat → Int32) × (Nat → Int32) × (Nat → Int32) × (Nat → Int32) × (Nat → Int32)) → Prop} {post : (Int × Int × (Nat → Int) × (Nat → Int) × (Nat → Int) × (Nat → Int) × (Nat → Int)) → Prop} (hv : iv_X1_moveInto d_signs d_size q_passages q_from q_to q_width q_length q_shut post) (hp : ∀ (u : Int × Int × (Nat → Int) × (Nat → Int) × (Nat → Int) × (Nat → Int) × (Nat → Int)) (y : Int32 × Int32 × (Nat → Int32) × (Nat → Int32) × (Nat → Int32) × (Nat → Int32) × (Nat → Int32)), post u → y = (iz u.1, iz u.2.1, az u.2.2.1, az u.2.2.2.1, az u.2.2.2.2.1, az u.2.2.2.2.2.1, az u.2.2.2.2.2.2) → post0 y) : vc_X1_moveInto d_signs' d_size' q_passages' q_from' q_to' q_width' q_length' q_shut' post0 := by
  subst e_d_signs
  subst e_d_size
  subst e_q_passages
  subst e_q_from
  subst e_q_to
  subst e_q_width
  subst e_q_length
  subst e_q_shut
  rw [iv_X1_moveInto] at hv
  rw [vc_X1_moveInto]
  obtain ⟨n_24, hv⟩ := hv
  refine ⟨n_24, lift_X1_moveInto_L2 (by first | with_reducible rfl | simp only [zl, iz_add, iz_sub, iz_mul, iz_neg]) (by first | with_reducible rfl | simp only [zl, iz_add, iz_sub, iz_mul, iz_neg]) (fun y_25 y_26 y_27 y_28 y_29 y_30 q_passages_18 q_from_19 q_to_20 q_width_21 q_length_22 q_shut_23 hv ey_31 ey_32 ey_33 ey_34 ey_35 ey_36 => ?_)  n_24 _ _ _ _ _ _ _ 0 q_passages q_from q_to q_width q_length q_shut (by first | with_reducible rfl | simp only [zl, iz_add, iz_sub, iz_mul, iz_neg]) (by first | with_reducible rfl | simp only [zl, iz_add, iz_sub, iz_mul, iz_neg]) (by first | with_reducible rfl | simp only [zl, iz_add, iz_sub, iz_mul, iz_neg]) (by first | with_reducible rfl | simp only [zl, iz_add, iz_sub, iz_mul, iz_neg]) (by first | with_reducible rfl | simp only [zl, iz_add, iz_sub, iz_mul, iz_neg]) (by first | with_reducible rfl | simp only [zl, iz_add, iz_sub, iz_mul, iz_neg]) (by first | with_reducible rfl | simp only [zl, iz_add, iz_sub, iz_mul, iz_neg]) hv⟩
  subst ey_31
  subst ey_32
  subst ey_33
  subst ey_34
  subst ey_35
  subst ey_36
  exact hp _ _ hv (by first | with_reducible rfl | simp only [zl, iz_add, iz_sub, iz_mul, iz_neg])

def iv_X2_copy (q_people : (Nat → Int)) (q_area : (Nat → Int)) (q_safeRooms : Int) (q_passages : Int) (q_from : (Nat → Int)) (q_to : (Nat → Int)) (q_width : (Nat → Int)) (q_length : (Nat → Int)) (q_shut : (Nat → Int)) (qb_people : (Nat → Int)) (qb_area : (Nat → Int)) (qb_safeRooms : Int) (qb_passages : Int) (qb_from : (Nat → Int)) (qb_to : (Nat → Int)) (qb_width : (Nat → Int)) (qb_length : (Nat → Int)) (qb_shut : (Nat → Int)) (post : ((Nat → Int) × (Nat → Int) × Int × Int × (Nat → Int) × (Nat → Int) × (Nat → Int) × (Nat → Int) × (Nat → Int)) → Prop) : Prop :=
  post ((va_cpy qb_people q_people 0 0 6), (va_cpy qb_area q_area 0 0 6), qb_safeRooms, qb_passages, (va_cpy qb_from q_from 0 0 10), (va_cpy qb_to q_to 0 0 10), (va_cpy qb_width q_width 0 0 10), (va_cpy qb_length q_length 0 0 10), (va_cpy qb_shut q_shut 0 0 10))

set_option maxHeartbeats 4000000 in
theorem lift_X2_copy {q_people' : (Nat → Int32)} {q_people : (Nat → Int)} {q_area' : (Nat → Int32)} {q_area : (Nat → Int)} {q_safeRooms' : Int32} {q_safeRooms : Int} {q_passages' : Int32} {q_passages : Int} {q_from' : (Nat → Int32)} {q_from : (Nat → Int)} {q_to' : (Nat → Int32)} {q_to : (Nat → Int)} {q_width' : (Nat → Int32)} {q_width : (Nat → Int)} {q_length' : (Nat → Int32)} {q_length : (Nat → Int)} {q_shut' : (Nat → Int32)} {q_shut : (Nat → Int)} {qb_people' : (Nat → Int32)} {qb_people : (Nat → Int)} {qb_area' : (Nat → Int32)} {qb_area : (Nat → Int)} {qb_safeRooms' : Int32} {qb_safeRooms : Int} {qb_passages' : Int32} {qb_passages : Int} {qb_from' : (Nat → Int32)} {qb_from : (Nat → Int)} {qb_to' : (Nat → Int32)} {qb_to : (Nat → Int)} {qb_width' : (Nat → Int32)} {qb_width : (Nat → Int)} {qb_length' : (Nat → Int32)} {qb_length : (Nat → Int)} {qb_shut' : (Nat → Int32)} {qb_shut : (Nat → Int)} (e_q_people : q_people' = az q_people) (e_q_area : q_area' = az q_area) (e_q_safeRooms : q_safeRooms' = iz q_safeRooms) (e_q_passages : q_passages' = iz q_passages) (e_q_from : q_from' = az q_from) (e_q_to : q_to' = az q_to) (e_q_width : q_width' = az q_width) (e_q_length : q_length' = az q_length) (e_q_shut : q_shut' = az q_shut) (e_qb_people : qb_people' = az qb_people) (e_qb_area : qb_area' = az qb_area) (e_qb_safeRooms : qb_safeRooms' = iz qb_safeRooms) (e_qb_passages : qb_passages' = iz qb_passages) (e_qb_from : qb_from' = az qb_from) (e_qb_to : qb_to' = az qb_to) (e_qb_width : qb_width' = az qb_width) (e_qb_length : qb_length' = az qb_length) (e_qb_shut : qb_shut' = az qb_shut) {post0 : ((Nat → Int32) × (Nat → Int32) × Int32 × Int32 × (Nat → Int32) × (Nat → Int32) × (Nat → Int32) × (Nat → Int32) × (Nat → Int32)) → Prop} {post : ((Nat → Int) × (Nat → Int) × Int × Int × (Nat → Int) × (Nat → Int) × (Nat → Int) × (Nat → Int) × (Nat → Int)) → Prop} (hv : iv_X2_copy q_people q_area q_safeRooms q_passages q_from q_to q_width q_length q_shut qb_people qb_area qb_safeRooms qb_passages qb_from qb_to qb_width qb_length qb_shut post) (hp : ∀ (u : (Nat → Int) × (Nat → Int) × Int × Int × (Nat → Int) × (Nat → Int) × (Nat → Int) × (Nat → Int) × (Nat → Int)) (y : (Nat → Int32) × (Nat → Int32) × Int32 × Int32 × (Nat → Int32) × (Nat → Int32) × (Nat → Int32) × (Nat → Int32) × (Nat → Int32)), post u → y = (az u.1, az u.2.1, iz u.2.2.1, iz u.2.2.2.1, az u.2.2.2.2.1, az u.2.2.2.2.2.1, az u.2.2.2.2.2.2.1, az u.2.2.2.2.2.2.2.1, az u.2.2.2.2.2.2.2.2) → post0 y) : vc_X2_copy q_people' q_area' q_safeRooms' q_passages' q_from' q_to' q_width' q_length' q_shut' qb_people' qb_area' qb_safeRooms' qb_passages' qb_from' qb_to' qb_width' qb_length' qb_shut' post0 := by
  subst e_q_people
  subst e_q_area
  subst e_q_safeRooms
  subst e_q_passages
  subst e_q_from
  subst e_q_to
  subst e_q_width
  subst e_q_length
  subst e_q_shut
  subst e_qb_people
  subst e_qb_area
  subst e_qb_safeRooms
  subst e_qb_passages
  subst e_qb_from
  subst e_qb_to
  subst e_qb_width
  subst e_qb_length
  subst e_qb_shut
  rw [iv_X2_copy] at hv
  rw [vc_X2_copy]
  have e_1 : (va_cpy (az qb_people) (az q_people) 0 0 6) = az (va_cpy qb_people q_people 0 0 6) := z_cpy (by first | with_reducible rfl | simp only [zl, iz_add, iz_sub, iz_mul, iz_neg]) (by first | with_reducible rfl | simp only [zl, iz_add, iz_sub, iz_mul, iz_neg])
  try rw [e_1]
  have e_2 : (va_cpy (az qb_area) (az q_area) 0 0 6) = az (va_cpy qb_area q_area 0 0 6) := z_cpy (by first | with_reducible rfl | simp only [zl, iz_add, iz_sub, iz_mul, iz_neg]) (by first | with_reducible rfl | simp only [zl, iz_add, iz_sub, iz_mul, iz_neg])
  try rw [e_2]
  have e_3 : (va_cpy (az qb_from) (az q_from) 0 0 10) = az (va_cpy qb_from q_from 0 0 10) := z_cpy (by first | with_reducible rfl | simp only [zl, iz_add, iz_sub, iz_mul, iz_neg]) (by first | with_reducible rfl | simp only [zl, iz_add, iz_sub, iz_mul, iz_neg])
  try rw [e_3]
  have e_4 : (va_cpy (az qb_to) (az q_to) 0 0 10) = az (va_cpy qb_to q_to 0 0 10) := z_cpy (by first | with_reducible rfl | simp only [zl, iz_add, iz_sub, iz_mul, iz_neg]) (by first | with_reducible rfl | simp only [zl, iz_add, iz_sub, iz_mul, iz_neg])
  try rw [e_4]
  have e_5 : (va_cpy (az qb_width) (az q_width) 0 0 10) = az (va_cpy qb_width q_width 0 0 10) := z_cpy (by first | with_reducible rfl | simp only [zl, iz_add, iz_sub, iz_mul, iz_neg]) (by first | with_reducible rfl | simp only [zl, iz_add, iz_sub, iz_mul, iz_neg])
  try rw [e_5]
  have e_6 : (va_cpy (az qb_length) (az q_length) 0 0 10) = az (va_cpy qb_length q_length 0 0 10) := z_cpy (by first | with_reducible rfl | simp only [zl, iz_add, iz_sub, iz_mul, iz_neg]) (by first | with_reducible rfl | simp only [zl, iz_add, iz_sub, iz_mul, iz_neg])
  try rw [e_6]
  have e_7 : (va_cpy (az qb_shut) (az q_shut) 0 0 10) = az (va_cpy qb_shut q_shut 0 0 10) := z_cpy (by first | with_reducible rfl | simp only [zl, iz_add, iz_sub, iz_mul, iz_neg]) (by first | with_reducible rfl | simp only [zl, iz_add, iz_sub, iz_mul, iz_neg])
  try rw [e_7]
  exact hp _ _ hv (by first | with_reducible rfl | simp only [zl, iz_add, iz_sub, iz_mul, iz_neg])

def iv_X2_shutTickOrNone (a1 : Int) (q_shut : (Nat → Int)) (post : Int → Unit → Prop) : Prop :=
  ((0 ≤ a1 ∧ a1 < 10) ∧ ((sm (q_shut a1.toNat) ∧ sm 1000) ∧ ((¬ (q_shut a1.toNat) = 1000 → ((0 ≤ a1 ∧ a1 < 10) ∧ post (q_shut a1.toNat) ())) ∧ ((q_shut a1.toNat) = 1000 → post (-6) ()))))

set_option maxHeartbeats 4000000 in
theorem lift_X2_shutTickOrNone {a1' : Int32} {a1 : Int} {q_shut' : (Nat → Int32)} {q_shut : (Nat → Int)} (e_a1 : a1' = iz a1) (e_q_shut : q_shut' = az q_shut) {post0 : Int32 → Unit → Prop} {post : Int → Unit → Prop} (hv : iv_X2_shutTickOrNone a1 q_shut post) (hp : ∀ (r : Int) (u : Unit) (x : Int32) (y : Unit), post r u → x = iz r → y = () → post0 x y) : vc_X2_shutTickOrNone a1' q_shut' post0 := by
  subst e_a1
  subst e_q_shut
  rw [iv_X2_shutTickOrNone] at hv
  rw [vc_X2_shutTickOrNone]
  obtain ⟨hi_1, hv⟩ := hv
  refine ⟨z_in (by first | with_reducible rfl | simp only [zl, iz_add, iz_sub, iz_mul, iz_neg]) hi_1 (by decide), ?_⟩
  have e_2 : ((az q_shut) ((iz a1)).toNatClampNeg) = iz (q_shut a1.toNat) := z_at (by first | with_reducible rfl | simp only [zl, iz_add, iz_sub, iz_mul, iz_neg]) (by first | with_reducible rfl | simp only [zl, iz_add, iz_sub, iz_mul, iz_neg]) hi_1 (by decide)
  try rw [e_2]
  obtain ⟨hs_3, hv⟩ := hv
  have q_4 := z_eq (x := (iz (q_shut a1.toNat))) (a := (q_shut a1.toNat)) (by first | with_reducible rfl | simp only [zl, iz_add, iz_sub, iz_mul, iz_neg]) (y := 1000) (b := 1000) (by first | with_reducible rfl | simp only [zl, iz_add, iz_sub, iz_mul, iz_neg]) hs_3.1 hs_3.2
  refine ⟨fun c9 => ?_, fun c9 => ?_⟩
  · have hv := hv.1 (fun z9 => c9 (q_4.mpr z9))
    obtain ⟨hi_5, hv⟩ := hv
    refine ⟨z_in (by first | with_reducible rfl | simp only [zl, iz_add, iz_sub, iz_mul, iz_neg]) hi_5 (by decide), ?_⟩
    have e_6 : ((az q_shut) ((iz a1)).toNatClampNeg) = iz (q_shut a1.toNat) := z_at (by first | with_reducible rfl | simp only [zl, iz_add, iz_sub, iz_mul, iz_neg]) (by first | with_reducible rfl | simp only [zl, iz_add, iz_sub, iz_mul, iz_neg]) hi_5 (by decide)
    try rw [e_6]
    exact hp _ _ _ _ hv (by first | with_reducible rfl | simp only [zl, iz_add, iz_sub, iz_mul, iz_neg]) (by first | with_reducible rfl | simp only [zl, iz_add, iz_sub, iz_mul, iz_neg])
  · have hv := hv.2 (q_4.mp c9)
    exact hp _ _ _ _ hv (by first | with_reducible rfl | simp only [zl, iz_add, iz_sub, iz_mul, iz_neg]) (by first | with_reducible rfl | simp only [zl, iz_add, iz_sub, iz_mul, iz_neg])

def iv_X2_passagesEverShut_L4 (K : Int → Prop) (q_passages : Int) (q_shut : (Nat → Int)) : Nat → Int → Int → Prop
  | 0, _, _ => False
  | n + 1, v1, v2 =>
    ((sm q_passages ∧ sm v2) ∧ ((q_passages ≤ v2 → K v1) ∧ (¬ q_passages ≤ v2 → ((0 ≤ v2 ∧ v2 < 10) ∧ ((sm (q_shut v2.toNat) ∧ sm 1000) ∧ (((q_shut v2.toNat) = 1000 → (∀ x2_7 : Int, x2_7 = v2 + 1 → iv_X2_passagesEverShut_L4 K q_passages q_shut n v1 x2_7)) ∧ (¬ (q_shut v2.toNat) = 1000 → (∀ x1_9 : Int, x1_9 = v1 + 1 → (∀ x2_11 : Int, x2_11 = v2 + 1 → iv_X2_passagesEverShut_L4 K q_passages q_shut n x1_9 x2_11)))))))))

set_option maxHeartbeats 4000000 in
theorem lift_X2_passagesEverShut_L4 {K0 : Int32 → Prop} {K : Int → Prop} {q_passages' : Int32} {q_passages : Int} {q_shut' : (Nat → Int32)} {q_shut : (Nat → Int)} (e_q_passages : q_passages' = iz q_passages) (e_q_shut : q_shut' = az q_shut)  (hKx : ∀ (k1' : Int32) (k1 : Int), K k1 → k1' = iz k1 →  K0 k1') :
    ∀ (n : Nat) (v1' : Int32) (v2' : Int32) (v1 : Int) (v2 : Int) (e_v1 : v1' = iz v1) (e_v2 : v2' = iz v2), iv_X2_passagesEverShut_L4 K q_passages q_shut n v1 v2 → vc_X2_passagesEverShut_L4 K0 q_passages' q_shut' n v1' v2' := by
  subst e_q_passages
  subst e_q_shut
  intro n
  induction n with
  | zero =>
    intro v1' v2' v1 v2 e_v1 e_v2 hv
    exact False.elim hv
  | succ n ih =>
    intro v1' v2' v1 v2 e_v1 e_v2 hv
    subst e_v1
    subst e_v2
    rw [iv_X2_passagesEverShut_L4] at hv
    rw [vc_X2_passagesEverShut_L4]
    obtain ⟨hs_1, hv⟩ := hv
    have q_2 := z_le (x := (iz q_passages)) (a := q_passages) (by first | with_reducible rfl | simp only [zl, iz_add, iz_sub, iz_mul, iz_neg]) (y := (iz v2)) (b := v2) (by first | with_reducible rfl | simp only [zl, iz_add, iz_sub, iz_mul, iz_neg]) hs_1.1 hs_1.2
    refine ⟨fun c9 => ?_, fun c9 => ?_⟩
    · have hv := hv.1 (q_2.mp c9)
      exact hKx _ v1 hv (by first | with_reducible rfl | simp only [zl, iz_add, iz_sub, iz_mul, iz_neg])
    · have hv := hv.2 (fun z9 => c9 (q_2.mpr z9))
      obtain ⟨hi_3, hv⟩ := hv
      refine ⟨z_in (by first | with_reducible rfl | simp only [zl, iz_add, iz_sub, iz_mul, iz_neg]) hi_3 (by decide), ?_⟩
      have e_4 : ((az q_shut) ((iz v2)).toNatClampNeg) = iz (q_shut v2.toNat) := z_at (by first | with_reducible rfl | simp only [zl, iz_add, iz_sub, iz_mul, iz_neg]) (by first | with_reducible rfl | simp only [zl, iz_add, iz_sub, iz_mul, iz_neg]) hi_3 (by decide)
      try rw [e_4]
      obtain ⟨hs_5, hv⟩ := hv
      have q_6 := z_eq (x := (iz (q_shut v2.toNat))) (a := (q_shut v2.toNat)) (by first | with_reducible rfl | simp only [zl, iz_add, iz_sub, iz_mul, iz_neg]) (y := 1000) (b := 1000) (by first | with_reducible rfl | simp only [zl, iz_add, iz_sub, iz_mul, iz_neg]) hs_5.1 hs_5.2
      refine ⟨fun c9 => ?_, fun c9 => ?_⟩
      · have hv := hv.1 (q_6.mp c9)
        intro y_8 hy_8
        obtain ⟨x2_7, hx2_7⟩ : ∃ z : Int, z = v2 + 1 := ⟨_, rfl⟩
        have hv := hv x2_7 hx2_7
        have ey_8 : y_8 = iz x2_7 := by rw [hy_8, hx2_7]; try exact (by first | with_reducible rfl | simp only [zl, iz_add, iz_sub, iz_mul, iz_neg])
        subst ey_8
        exact ih _ _ v1 x2_7 (by first | with_reducible rfl | simp only [zl, iz_add, iz_sub, iz_mul, iz_neg]) (by first | with_reducible rfl | simp only [zl, iz_add, iz_sub, iz_mul, iz_neg]) hv
      · have hv := hv.2 (fun z9 => c9 (q_6.mpr z9))
        intro y_10 hy_10
        obtain ⟨x1_9, hx1_9⟩ : ∃ z : Int, z = v1 + 1 := ⟨_, rfl⟩
        have hv := hv x1_9 hx1_9
        have ey_10 : y_10 = iz x1_9 := by rw [hy_10, hx1_9]; try exact (by first | with_reducible rfl | simp only [zl, iz_add, iz_sub, iz_mul, iz_neg])
        subst ey_10
        intro y_12 hy_12
        obtain ⟨x2_11, hx2_11⟩ : ∃ z : Int, z = v2 + 1 := ⟨_, rfl⟩
        have hv := hv x2_11 hx2_11
        have ey_12 : y_12 = iz x2_11 := by rw [hy_12, hx2_11]; try exact (by first | with_reducible rfl | simp only [zl, iz_add, iz_sub, iz_mul, iz_neg])
        subst ey_12
        exact ih _ _ x1_9 x2_11 (by first | with_reducible rfl | simp only [zl, iz_add, iz_sub, iz_mul, iz_neg]) (by first | with_reducible rfl | simp only [zl, iz_add, iz_sub, iz_mul, iz_neg]) hv

def iv_X2_passagesEverShut (q_passages : Int) (q_shut : (Nat → Int)) (post : Int → Unit → Prop) : Prop :=
  (∃ n_14, iv_X2_passagesEverShut_L4 (fun k1_13 => post k1_13 ())  q_passages q_shut n_14 0 0)

set_option maxHeartbeats 4000000 in
theorem lift_X2_passagesEverShut {q_passages' : Int32} {q_passages : Int} {q_shut' : (Nat → Int32)} {q_shut : (Nat → Int)} (e_q_passages : q_passages' = iz q_passages) (e_q_shut : q_shut' = az q_shut) {post0 : Int32 → Unit → Prop} {post : Int → Unit → Prop} (hv : iv_X2_passagesEverShut q_passages q_shut post) (hp : ∀ (r : Int) (u : Unit) (x : Int32) (y : Unit), post r u → x = iz r → y = () → post0 x y) : vc_X2_passagesEverShut q_passages' q_shut' post0 := by
  subst e_q_passages
  subst e_q_shut
  rw [iv_X2_passagesEverShut] at hv
  rw [vc_X2_passagesEverShut]
  obtain ⟨n_14, hv⟩ := hv
  refine ⟨n_14, lift_X2_passagesEverShut_L4 (by first | with_reducible rfl | simp only [zl, iz_add, iz_sub, iz_mul, iz_neg]) (by first | with_reducible rfl | simp only [zl, iz_add, iz_sub, iz_mul, iz_neg]) (fun y_15 k1_13 hv ey_16 => ?_)  n_14 _ _ 0 0 (by first | with_reducible rfl | simp only [zl, iz_add, iz_sub, iz_mul, iz_neg]) (by first | with_reducible rfl | simp only [zl, iz_add, iz_sub, iz_mul, iz_neg]) hv⟩
  subst ey_16
  exact hp _ _ _ _ hv (by first | with_reducible rfl | simp only [zl, iz_add, iz_sub, iz_mul, iz_neg]) (by first | with_reducible rfl | simp only [zl, iz_add, iz_sub, iz_mul, iz_neg])

def iv_X2_anyShutsAt_L2 (K : Prop) (post : Int → Unit → Prop) (b1 : Int) (q_passages : Int) (q_shut : (Nat → Int)) : Nat → Int → Prop
  | 0, _ => False
  | n + 1, v2 =>
    ((sm q_passages ∧ sm v2) ∧ ((q_passages ≤ v2 → K) ∧ (¬ q_passages ≤ v2 → ((0 ≤ v2 ∧ v2 < 10) ∧ ((sm (q_shut v2.toNat) ∧ sm b1) ∧ ((¬ (q_shut v2.toNat) = b1 → (∀ x2_7 : Int, x2_7 = v2 + 1 → iv_X2_anyShutsAt_L2 K post b1 q_passages q_shut n x2_7)) ∧ ((q_shut v2.toNat) = b1 → post 1 ())))))))

set_option maxHeartbeats 4000000 in
theorem lift_X2_anyShutsAt_L2 {K0 : Prop} {K : Prop} {post0 : Int32 → Unit → Prop} {post : Int → Unit → Prop} {b1' : Int32} {b1 : Int} {q_passages' : Int32} {q_passages : Int} {q_shut' : (Nat → Int32)} {q_shut : (Nat → Int)} (e_b1 : b1' = iz b1) (e_q_passages : q_passages' = iz q_passages) (e_q_shut : q_shut' = az q_shut)  (hKx : K → K0) (hp : ∀ (r : Int) (u : Unit) (x : Int32) (y : Unit), post r u → x = iz r → y = () → post0 x y) :
    ∀ (n : Nat) (v2' : Int32) (v2 : Int) (e_v2 : v2' = iz v2), iv_X2_anyShutsAt_L2 K post b1 q_passages q_shut n v2 → vc_X2_anyShutsAt_L2 K0 post0 b1' q_passages' q_shut' n v2' := by
  subst e_b1
  subst e_q_passages
  subst e_q_shut
  intro n
  induction n with
  | zero =>
    intro v2' v2 e_v2 hv
    exact False.elim hv
  | succ n ih =>
    intro v2' v2 e_v2 hv
    subst e_v2
    rw [iv_X2_anyShutsAt_L2] at hv
    rw [vc_X2_anyShutsAt_L2]
    obtain ⟨hs_1, hv⟩ := hv
    have q_2 := z_le (x := (iz q_passages)) (a := q_passages) (by first | with_reducible rfl | simp only [zl, iz_add, iz_sub, iz_mul, iz_neg]) (y := (iz v2)) (b := v2) (by first | with_reducible rfl | simp only [zl, iz_add, iz_sub, iz_mul, iz_neg]) hs_1.1 hs_1.2
    refine ⟨fun c9 => ?_, fun c9 => ?_⟩
    · have hv := hv.1 (q_2.mp c9)
      exact hKx   hv 
    · have hv := hv.2 (fun z9 => c9 (q_2.mpr z9))
      obtain ⟨hi_3, hv⟩ := hv
      refine ⟨z_in (by first | with_reducible rfl | simp only [zl, iz_add, iz_sub, iz_mul, iz_neg]) hi_3 (by decide), ?_⟩
      have e_4 : ((az q_shut) ((iz v2)).toNatClampNeg) = iz (q_shut v2.toNat) := z_at (by first | with_reducible rfl | simp only [zl, iz_add, iz_sub, iz_mul, iz_neg]) (by first | with_reducible rfl | simp only [zl, iz_add, iz_sub, iz_mul, iz_neg]) hi_3 (by decide)
      try rw [e_4]
      obtain ⟨hs_5, hv⟩ := hv
      have q_6 := z_eq (x := (iz (q_shut v2.toNat))) (a := (q_shut v2.toNat)) (by first | with_reducible rfl | simp only [zl, iz_add, iz_sub, iz_mul, iz_neg]) (y := (iz b1)) (b := b1) (by first | with_reducible rfl | simp only [zl, iz_add, iz_sub, iz_mul, iz_neg]) hs_5.1 hs_5.2
      refine ⟨fun c9 => ?_, fun c9 => ?_⟩
      · have hv := hv.1 (fun z9 => c9 (q_6.mpr z9))
        intro y_8 hy_8
        obtain ⟨x2_7, hx2_7⟩ : ∃ z : Int, z = v2 + 1 := ⟨_, rfl⟩
        have hv := hv x2_7 hx2_7
        have ey_8 : y_8 = iz x2_7 := by rw [hy_8, hx2_7]; try exact (by first | with_reducible rfl | simp only [zl, iz_add, iz_sub, iz_mul, iz_neg])
        subst ey_8
        exact ih _ x2_7 (by first | with_reducible rfl | simp only [zl, iz_add, iz_sub, iz_mul, iz_neg]) hv
      · have hv := hv.2 (q_6.mp c9)
        exact hp _ _ _ _ hv (by first | with_reducible rfl | simp only [zl, iz_add, iz_sub, iz_mul, iz_neg]) (by first | with_reducible rfl | simp only [zl, iz_add, iz_sub, iz_mul, iz_neg])

def iv_X2_anyShutsAt (a1 : Int) (q_passages : Int) (q_shut : (Nat → Int)) (post : Int → Unit → Prop) : Prop :=
  (∃ n_9, iv_X2_anyShutsAt_L2 (post 0 ()) post a1 q_passages q_shut n_9 0)

set_option maxHeartbeats 4000000 in
theorem lift_X2_anyShutsAt {a1' : Int32} {a1 : Int} {q_passages' : Int32} {q_passages : Int} {q_shut' : (Nat → Int32)} {q_shut : (Nat → Int)} (e_a1 : a1' = iz a1) (e_q_passages : q_passages' = iz q_passages) (e_q_shut : q_shut' = az q_shut) {post0 : Int32 → Unit → Prop} {post : Int → Unit → Prop} (hv : iv_X2_anyShutsAt a1 q_passages q_shut post) (hp : ∀ (r : Int) (u : Unit) (x : Int32) (y : Unit), post r u → x = iz r → y = () → post0 x y) : vc_X2_anyShutsAt a1' q_passages' q_shut' post0 := by
  subst e_a1
  subst e_q_passages
  subst e_q_shut
  rw [iv_X2_anyShutsAt] at hv
  rw [vc_X2_anyShutsAt]
  obtain ⟨n_9, hv⟩ := hv
  refine ⟨n_9, lift_X2_anyShutsAt_L2 (by first | with_reducible rfl | simp only [zl, iz_add, iz_sub, iz_mul, iz_neg]) (by first | with_reducible rfl | simp only [zl, iz_add, iz_sub, iz_mul, iz_neg]) (by first | with_reducible rfl | simp only [zl, iz_add, iz_sub, iz_mul, iz_neg]) (fun   hv  => ?_) hp n_9 _ 0 (by first | with_reducible rfl | simp only [zl, iz_add, iz_sub, iz_mul, iz_neg]) hv⟩
  exact hp _ _ _ _ hv (by first | with_reducible rfl | simp only [zl, iz_add, iz_sub, iz_mul, iz_neg]) (by first | with_reducible rfl | simp only [zl, iz_add, iz_sub, iz_mul, iz_neg])
