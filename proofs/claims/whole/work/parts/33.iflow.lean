def iv_X0_begin_L117 (K : Int → (Nat → Int) → Prop) (f_safeRooms : Int) (q_people : (Nat → Int)) : Nat → Int → Int → (Nat → Int) → Prop
  | 0, _, _, _ => False
  | n + 1, v2, f_led, f_notLed =>
    ((sm 6 ∧ sm v2) ∧ ((6 ≤ v2 → K f_led f_notLed) ∧ (¬ 6 ≤ v2 → (iv_X4_isIn f_safeRooms v2 (fun (r_15 : Int) (u_14 : Unit) => ((sm r_15 ∧ sm 0) ∧ ((r_15 = 0 → ((0 ≤ v2 ∧ v2 < 6) ∧ ((0 ≤ v2 ∧ v2 < 6) ∧ ((0 ≤ v2 ∧ v2 < 6) ∧ (∀ x2_28 : Int, x2_28 = v2 + 1 → iv_X0_begin_L117 K f_safeRooms q_people n x2_28 (f_led - ((uz f_notLed v2.toNat (q_people v2.toNat)) v2.toNat)) (uz f_notLed v2.toNat (q_people v2.toNat))))))) ∧ (¬ r_15 = 0 → ((0 ≤ v2 ∧ v2 < 6) ∧ ((0 ≤ v2 ∧ v2 < 6) ∧ (∀ x2_34 : Int, x2_34 = v2 + 1 → iv_X0_begin_L117 K f_safeRooms q_people n x2_34 (f_led - ((uz f_notLed v2.toNat 0) v2.toNat)) (uz f_notLed v2.toNat 0))))))))))))

set_option maxHeartbeats 4000000 in
theorem lift_X0_begin_L117 {K0 : Int32 → (Nat → Int32) → Prop} {K : Int → (Nat → Int) → Prop} {f_safeRooms' : Int32} {f_safeRooms : Int} {q_people' : (Nat → Int32)} {q_people : (Nat → Int)} (e_f_safeRooms : f_safeRooms' = iz f_safeRooms) (e_q_people : q_people' = az q_people)  (hKx : ∀ (k_f_led' : Int32) (k_f_notLed' : (Nat → Int32)) (k_f_led : Int) (k_f_notLed : (Nat → Int)), K k_f_led k_f_notLed → k_f_led' = iz k_f_led → k_f_notLed' = az k_f_notLed →  K0 k_f_led' k_f_notLed') :
    ∀ (n : Nat) (v2' : Int32) (f_led' : Int32) (f_notLed' : (Nat → Int32)) (v2 : Int) (f_led : Int) (f_notLed : (Nat → Int)) (e_v2 : v2' = iz v2) (e_f_led : f_led' = iz f_led) (e_f_notLed : f_notLed' = az f_notLed), iv_X0_begin_L117 K f_safeRooms q_people n v2 f_led f_notLed → vc_X0_begin_L117 K0 f_safeRooms' q_people' n v2' f_led' f_notLed' := by
  subst e_f_safeRooms
  subst e_q_people
  intro n
  induction n with
  | zero =>
    intro v2' f_led' f_notLed' v2 f_led f_notLed e_v2 e_f_led e_f_notLed hv
    exact False.elim hv
  | succ n ih =>
    intro v2' f_led' f_notLed' v2 f_led f_notLed e_v2 e_f_led e_f_notLed hv
    subst e_v2
    subst e_f_led
    subst e_f_notLed
    rw [iv_X0_begin_L117] at hv
    rw [vc_X0_begin_L117]
    obtain ⟨hs_12, hv⟩ := hv
    have q_13 := z_le (x := 6) (a := 6) (by first | with_reducible rfl | simp only [zl, iz_add, iz_sub, iz_mul, iz_neg]) (y := (iz v2)) (b := v2) (by first | with_reducible rfl | simp only [zl, iz_add, iz_sub, iz_mul, iz_neg]) hs_12.1 hs_12.2
    refine ⟨fun c9 => ?_, fun c9 => ?_⟩
    · have hv := hv.1 (q_13.mp c9)
      exact hKx _ _ f_led f_notLed hv (by first | with_reducible rfl | simp only [zl, iz_add, iz_sub, iz_mul, iz_neg]) (by first | with_reducible rfl | simp only [zl, iz_add, iz_sub, iz_mul, iz_neg])
    · have hv := hv.2 (fun z9 => c9 (q_13.mpr z9))
      refine lift_X4_isIn (by first | with_reducible rfl | simp only [zl, iz_add, iz_sub, iz_mul, iz_neg]) (by first | with_reducible rfl | simp only [zl, iz_add, iz_sub, iz_mul, iz_neg]) hv (fun r_15 u_14 y_16 y_17 hv er_18 eu_19 => ?_)
      subst er_18; subst eu_19
      try dsimp only
      obtain ⟨hs_20, hv⟩ := hv
      have q_21 := z_eq (x := (iz r_15)) (a := r_15) (by first | with_reducible rfl | simp only [zl, iz_add, iz_sub, iz_mul, iz_neg]) (y := 0) (b := 0) (by first | with_reducible rfl | simp only [zl, iz_add, iz_sub, iz_mul, iz_neg]) hs_20.1 hs_20.2
      refine ⟨fun c9 => ?_, fun c9 => ?_⟩
      · have hv := hv.1 (q_21.mp c9)
        obtain ⟨hi_22, hv⟩ := hv
        refine ⟨z_in (by first | with_reducible rfl | simp only [zl, iz_add, iz_sub, iz_mul, iz_neg]) hi_22 (by decide), ?_⟩
        have e_23 : ((az q_people) ((iz v2)).toNatClampNeg) = iz (q_people v2.toNat) := z_at (by first | with_reducible rfl | simp only [zl, iz_add, iz_sub, iz_mul, iz_neg]) (by first | with_reducible rfl | simp only [zl, iz_add, iz_sub, iz_mul, iz_neg]) hi_22 (by decide)
        try rw [e_23]
        obtain ⟨hi_24, hv⟩ := hv
        refine ⟨z_in (by first | with_reducible rfl | simp only [zl, iz_add, iz_sub, iz_mul, iz_neg]) hi_24 (by decide), ?_⟩
        have e_25 : (upd (az f_notLed) ((iz v2)).toNatClampNeg (iz (q_people v2.toNat))) = az (uz f_notLed v2.toNat (q_people v2.toNat)) := z_upd (by first | with_reducible rfl | simp only [zl, iz_add, iz_sub, iz_mul, iz_neg]) (by first | with_reducible rfl | simp only [zl, iz_add, iz_sub, iz_mul, iz_neg]) (by first | with_reducible rfl | simp only [zl, iz_add, iz_sub, iz_mul, iz_neg]) hi_24 (by decide)
        try rw [e_25]
        obtain ⟨hi_26, hv⟩ := hv
        refine ⟨z_in (by first | with_reducible rfl | simp only [zl, iz_add, iz_sub, iz_mul, iz_neg]) hi_26 (by decide), ?_⟩
        have e_27 : ((az (uz f_notLed v2.toNat (q_people v2.toNat))) ((iz v2)).toNatClampNeg) = iz ((uz f_notLed v2.toNat (q_people v2.toNat)) v2.toNat) := z_at (by first | with_reducible rfl | simp only [zl, iz_add, iz_sub, iz_mul, iz_neg]) (by first | with_reducible rfl | simp only [zl, iz_add, iz_sub, iz_mul, iz_neg]) hi_26 (by decide)
        try rw [e_27]
        intro y_29 hy_29
        obtain ⟨x2_28, hx2_28⟩ : ∃ z : Int, z = v2 + 1 := ⟨_, rfl⟩
        have hv := hv x2_28 hx2_28
        have ey_29 : y_29 = iz x2_28 := by rw [hy_29, hx2_28]; try exact (by first | with_reducible rfl | simp only [zl, iz_add, iz_sub, iz_mul, iz_neg])
        subst ey_29
        exact ih _ _ _ x2_28 (f_led - ((uz f_notLed v2.toNat (q_people v2.toNat)) v2.toNat)) (uz f_notLed v2.toNat (q_people v2.toNat)) (by first | with_reducible rfl | simp only [zl, iz_add, iz_sub, iz_mul, iz_neg]) (by first | with_reducible rfl | simp only [zl, iz_add, iz_sub, iz_mul, iz_neg]) (by first | with_reducible rfl | simp only [zl, iz_add, iz_sub, iz_mul, iz_neg]) hv
      · have hv := hv.2 (fun z9 => c9 (q_21.mpr z9))
        obtain ⟨hi_30, hv⟩ := hv
        refine ⟨z_in (by first | with_reducible rfl | simp only [zl, iz_add, iz_sub, iz_mul, iz_neg]) hi_30 (by decide), ?_⟩
        have e_31 : (upd (az f_notLed) ((iz v2)).toNatClampNeg 0) = az (uz f_notLed v2.toNat 0) := z_upd (by first | with_reducible rfl | simp only [zl, iz_add, iz_sub, iz_mul, iz_neg]) (by first | with_reducible rfl | simp only [zl, iz_add, iz_sub, iz_mul, iz_neg]) (by first | with_reducible rfl | simp only [zl, iz_add, iz_sub, iz_mul, iz_neg]) hi_30 (by decide)
        try rw [e_31]
        obtain ⟨hi_32, hv⟩ := hv
        refine ⟨z_in (by first | with_reducible rfl | simp only [zl, iz_add, iz_sub, iz_mul, iz_neg]) hi_32 (by decide), ?_⟩
        have e_33 : ((az (uz f_notLed v2.toNat 0)) ((iz v2)).toNatClampNeg) = iz ((uz f_notLed v2.toNat 0) v2.toNat) := z_at (by first | with_reducible rfl | simp only [zl, iz_add, iz_sub, iz_mul, iz_neg]) (by first | with_reducible rfl | simp only [zl, iz_add, iz_sub, iz_mul, iz_neg]) hi_32 (by decide)
        try rw [e_33]
        intro y_35 hy_35
        obtain ⟨x2_34, hx2_34⟩ : ∃ z : Int, z = v2 + 1 := ⟨_, rfl⟩
        have hv := hv x2_34 hx2_34
        have ey_35 : y_35 = iz x2_34 := by rw [hy_35, hx2_34]; try exact (by first | with_reducible rfl | simp only [zl, iz_add, iz_sub, iz_mul, iz_neg])
        subst ey_35
        exact ih _ _ _ x2_34 (f_led - ((uz f_notLed v2.toNat 0) v2.toNat)) (uz f_notLed v2.toNat 0) (by first | with_reducible rfl | simp only [zl, iz_add, iz_sub, iz_mul, iz_neg]) (by first | with_reducible rfl | simp only [zl, iz_add, iz_sub, iz_mul, iz_neg]) (by first | with_reducible rfl | simp only [zl, iz_add, iz_sub, iz_mul, iz_neg]) hv

def iv_X0_begin (f_lanes : Int) (f_from : (Nat → Int)) (f_to : (Nat → Int)) (f_width : (Nat → Int)) (f_length : (Nat → Int)) (f_shut : (Nat → Int)) (f_safeRooms : Int) (f_people : Int) (f_led : Int) (f_notLed : (Nat → Int)) (f_entering : (Nat → Int)) (q_people : (Nat → Int)) (q_safeRooms : Int) (q_passages : Int) (q_from : (Nat → Int)) (q_to : (Nat → Int)) (q_width : (Nat → Int)) (q_length : (Nat → Int)) (q_shut : (Nat → Int)) (post : (Int × (Nat → Int) × (Nat → Int) × (Nat → Int) × (Nat → Int) × (Nat → Int) × Int × Int × Int × (Nat → Int) × (Nat → Int)) → Prop) : Prop :=
  (iv_X2_allPeople q_people (fun (r_7 : Int) (u_6 : Unit) => (∃ n_39, iv_X0_begin_L117 (fun f_led_36 f_notLed_37 => post ((6 + q_passages), (va_cpy q_from f_from 0 6 10), (va_cpy q_to f_to 0 6 10), (va_cpy q_width f_width 0 6 10), (va_cpy q_length f_length 0 6 10), (va_cpy q_shut f_shut 0 6 10), q_safeRooms, r_7, f_led_36, f_notLed_37, (fz 976 0 f_entering)))  q_safeRooms q_people n_39 0 r_7 f_notLed)))

set_option maxHeartbeats 4000000 in
theorem lift_X0_begin {f_lanes' : Int32} {f_lanes : Int} {f_from' : (Nat → Int32)} {f_from : (Nat → Int)} {f_to' : (Nat → Int32)} {f_to : (Nat → Int)} {f_width' : (Nat → Int32)} {f_width : (Nat → Int)} {f_length' : (Nat → Int32)} {f_length : (Nat → Int)} {f_shut' : (Nat → Int32)} {f_shut : (Nat → Int)} {f_safeRooms' : Int32} {f_safeRooms : Int} {f_people' : Int32} {f_people : Int} {f_led' : Int32} {f_led : Int} {f_notLed' : (Nat → Int32)} {f_notLed : (Nat → Int)} {f_entering' : (Nat → Int32)} {f_entering : (Nat → Int)} {q_people' : (Nat → Int32)} {q_people : (Nat → Int)} {q_safeRooms' : Int32} {q_safeRooms : Int} {q_passages' : Int32} {q_passages : Int} {q_from' : (Nat → Int32)} {q_from : (Nat → Int)} {q_to' : (Nat → Int32)} {q_to : (Nat → Int)} {q_width' : (Nat → Int32)} {q_width : (Nat → Int)} {q_length' : (Nat → Int32)} {q_length : (Nat → Int)} {q_shut' : (Nat → Int32)} {q_shut : (Nat → Int)} (e_f_lanes : f_lanes' = iz f_lanes) (e_f_from : f_from' = az f_from) (e_f_to : f_to' = az f_to) (e_f_width : f_width' = az f_width) (e_f_length : f_length' = az f_length) (e_f_shut : f_shut' = az f_shut) (e_f_safeRooms : f_safeRooms' = iz f_safeRooms) (e_f_people : f_people' = iz f_people) (e_f_led : f_led' = iz f_led) (e_f_notLed : f_notLed' = az f_notLed) (e_f_entering : f_entering' = az f_entering) (e_q_people : q_people' = az q_people) (e_q_safeRooms : q_safeRooms' = iz q_safeRooms) (e_q_passages : q_passages' = iz q_passages) (e_q_from : q_from' = az q_from) (e_q_to : q_to' = az q_to) (e_q_width : q_width' = az q_width) (e_q_length : q_length' = az q_length) (e_q_shut : q_shut' = az q_shut) {post0 : (Int32 × (Nat → Int32) × (Nat → Int32) × (Nat → Int32) × (Nat → Int32) × (Nat → Int32) × Int32 × Int32 × Int32 × (Nat → Int32) × (Nat → Int32)) → Prop} {post : (Int × (Nat → Int) × (Nat → Int) × (Nat → Int) × (Nat → Int) × (Nat → Int) × Int × Int × Int × (Nat → Int) × (Nat → Int)) → Prop} (hv : iv_X0_begin f_lanes f_from f_to f_width f_length f_shut f_safeRooms f_people f_led f_notLed f_entering q_people q_safeRooms q_passages q_from q_to q_width q_length q_shut post) (hp : ∀ (u : Int × (Nat → Int) × (Nat → Int) × (Nat → Int) × (Nat → Int) × (Nat → Int) × Int × Int × Int × (Nat → Int) × (Nat → Int)) (y : Int32 × (Nat → Int32) × (Nat → Int32) × (Nat → Int32) × (Nat → Int32) × (Nat → Int32) × Int32 × Int32 × Int32 × (Nat → Int32) × (Nat → Int32)), post u → y = (iz u.1, az u.2.1, az u.2.2.1, az u.2.2.2.1, az u.2.2.2.2.1, az u.2.2.2.2.2.1, iz u.2.2.2.2.2.2.1, iz u.2.2.2.2.2.2.2.1, iz u.2.2.2.2.2.2.2.2.1, az u.2.2.2.2.2.2.2.2.2.1, az u.2.2.2.2.2.2.2.2.2.2) → post0 y) : vc_X0_begin f_lanes' f_from' f_to' f_width' f_length' f_shut' f_safeRooms' f_people' f_led' f_notLed' f_entering' q_people' q_safeRooms' q_passages' q_from' q_to' q_width' q_length' q_shut' post0 := by
  subst e_f_lanes
  subst e_f_from
  subst e_f_to
  subst e_f_width
  subst e_f_length
  subst e_f_shut
  subst e_f_safeRooms
  subst e_f_people
  subst e_f_led
  subst e_f_notLed
  subst e_f_entering
  subst e_q_people
  subst e_q_safeRooms
  subst e_q_passages
  subst e_q_from
  subst e_q_to
  subst e_q_width
  subst e_q_length
  subst e_q_shut
  rw [iv_X0_begin] at hv
  rw [vc_X0_begin]
  have e_1 : (va_cpy (az q_from) (az f_from) 0 6 10) = az (va_cpy q_from f_from 0 6 10) := z_cpy (by first | with_reducible rfl | simp only [zl, iz_add, iz_sub, iz_mul, iz_neg]) (by first | with_reducible rfl | simp only [zl, iz_add, iz_sub, iz_mul, iz_neg])
  try rw [e_1]
  have e_2 : (va_cpy (az q_to) (az f_to) 0 6 10) = az (va_cpy q_to f_to 0 6 10) := z_cpy (by first | with_reducible rfl | simp only [zl, iz_add, iz_sub, iz_mul, iz_neg]) (by first | with_reducible rfl | simp only [zl, iz_add, iz_sub, iz_mul, iz_neg])
  try rw [e_2]
  have e_3 : (va_cpy (az q_width) (az f_width) 0 6 10) = az (va_cpy q_width f_width 0 6 10) := z_cpy (by first | with_reducible rfl | simp only [zl, iz_add, iz_sub, iz_mul, iz_neg]) (by first | with_reducible rfl | simp only [zl, iz_add, iz_sub, iz_mul, iz_neg])
  try rw [e_3]
  have e_4 : (va_cpy (az q_length) (az f_length) 0 6 10) = az (va_cpy q_length f_length 0 6 10) := z_cpy (by first | with_reducible rfl | simp only [zl, iz_add, iz_sub, iz_mul, iz_neg]) (by first | with_reducible rfl | simp only [zl, iz_add, iz_sub, iz_mul, iz_neg])
  try rw [e_4]
  have e_5 : (va_cpy (az q_shut) (az f_shut) 0 6 10) = az (va_cpy q_shut f_shut 0 6 10) := z_cpy (by first | with_reducible rfl | simp only [zl, iz_add, iz_sub, iz_mul, iz_neg]) (by first | with_reducible rfl | simp only [zl, iz_add, iz_sub, iz_mul, iz_neg])
  try rw [e_5]
  refine lift_X2_allPeople (by first | with_reducible rfl | simp only [zl, iz_add, iz_sub, iz_mul, iz_neg]) hv (fun r_7 u_6 y_8 y_9 hv er_10 eu_11 => ?_)
  subst er_10; subst eu_11
  try dsimp only
  obtain ⟨n_39, hv⟩ := hv
  refine ⟨n_39, lift_X0_begin_L117 (by first | with_reducible rfl | simp only [zl, iz_add, iz_sub, iz_mul, iz_neg]) (by first | with_reducible rfl | simp only [zl, iz_add, iz_sub, iz_mul, iz_neg]) (fun y_40 y_41 f_led_36 f_notLed_37 hv ey_42 ey_43 => ?_)  n_39 _ _ _ 0 r_7 f_notLed (by first | with_reducible rfl | simp only [zl, iz_add, iz_sub, iz_mul, iz_neg]) (by first | with_reducible rfl | simp only [zl, iz_add, iz_sub, iz_mul, iz_neg]) (by first | with_reducible rfl | simp only [zl, iz_add, iz_sub, iz_mul, iz_neg]) hv⟩
  subst ey_42
  subst ey_43
  have e_38 : (lw_fil 976 0 (az f_entering)) = az (fz 976 0 f_entering) := z_fil (by first | with_reducible rfl | simp only [zl, iz_add, iz_sub, iz_mul, iz_neg]) (by first | with_reducible rfl | simp only [zl, iz_add, iz_sub, iz_mul, iz_neg])
  try rw [e_38]
  exact hp _ _ hv (by first | with_reducible rfl | simp only [zl, iz_add, iz_sub, iz_mul, iz_neg])

def iv_X0_copy (f_lanes : Int) (f_from : (Nat → Int)) (f_to : (Nat → Int)) (f_width : (Nat → Int)) (f_length : (Nat → Int)) (f_shut : (Nat → Int)) (f_safeRooms : Int) (f_people : Int) (f_led : Int) (f_notLed : (Nat → Int)) (f_entering : (Nat → Int)) (g_lanes : Int) (g_from : (Nat → Int)) (g_to : (Nat → Int)) (g_width : (Nat → Int)) (g_length : (Nat → Int)) (g_shut : (Nat → Int)) (g_safeRooms : Int) (g_people : Int) (g_led : Int) (g_notLed : (Nat → Int)) (g_entering : (Nat → Int)) (post : (Int × (Nat → Int) × (Nat → Int) × (Nat → Int) × (Nat → Int) × (Nat → Int) × Int × Int × Int × (Nat → Int) × (Nat → Int)) → Prop) : Prop :=
  post (g_lanes, (va_cpy g_from f_from 0 0 16), (va_cpy g_to f_to 0 0 16), (va_cpy g_width f_width 0 0 16), (va_cpy g_length f_length 0 0 16), (va_cpy g_shut f_shut 0 0 16), g_safeRooms, g_people, g_led, (va_cpy g_notLed f_notLed 0 0 6), (va_cpy g_entering f_entering 0 0 976))

set_option maxHeartbeats 4000000 in
theorem lift_X0_copy {f_lanes' : Int32} {f_lanes : Int} {f_from' : (Nat → Int32)} {f_from : (Nat → Int)} {f_to' : (Nat → Int32)} {f_to : (Nat → Int)} {f_width' : (Nat → Int32)} {f_width : (Nat → Int)} {f_length' : (Nat → Int32)} {f_length : (Nat → Int)} {f_shut' : (Nat → Int32)} {f_shut : (Nat → Int)} {f_safeRooms' : Int32} {f_safeRooms : Int} {f_people' : Int32} {f_people : Int} {f_led' : Int32} {f_led : Int} {f_notLed' : (Nat → Int32)} {f_notLed : (Nat → Int)} {f_entering' : (Nat → Int32)} {f_entering : (Nat → Int)} {g_lanes' : Int32} {g_lanes : Int} {g_from' : (Nat → Int32)} {g_from : (Nat → Int)} {g_to' : (Nat → Int32)} {g_to : (Nat → Int)} {g_width' : (Nat → Int32)} {g_width : (Nat → Int)} {g_length' : (Nat → Int32)} {g_length : (Nat → Int)} {g_shut' : (Nat → Int32)} {g_shut : (Nat → Int)} {g_safeRooms' : Int32} {g_safeRooms : Int} {g_people' : Int32} {g_people : Int} {g_led' : Int32} {g_led : Int} {g_notLed' : (Nat → Int32)} {g_notLed : (Nat → Int)} {g_entering' : (Nat → Int32)} {g_entering : (Nat → Int)} (e_f_lanes : f_lanes' = iz f_lanes) (e_f_from : f_from' = az f_from) (e_f_to : f_to' = az f_to) (e_f_width : f_width' = az f_width) (e_f_length : f_length' = az f_length) (e_f_shut : f_shut' = az f_shut) (e_f_safeRooms : f_safeRooms' = iz f_safeRooms) (e_f_people : f_people' = iz f_people) (e_f_led : f_led' = iz f_led) (e_f_notLed : f_notLed' = az f_notLed) (e_f_entering : f_entering' = az f_entering) (e_g_lanes : g_lanes' = iz g_lanes) (e_g_from : g_from' = az g_from) (e_g_to : g_to' = az g_to) (e_g_width : g_width' = az g_width) (e_g_length : g_length' = az g_length) (e_g_shut : g_shut' = az g_shut) (e_g_safeRooms : g_safeRooms' = iz g_safeRooms) (e_g_people : g_people' = iz g_people) (e_g_led : g_led' = iz g_led) (e_g_notLed : g_notLed' = az g_notLed) (e_g_entering : g_entering' = az g_entering) {post0 : (Int32 × (Nat → Int32) × (Nat → Int32) × (Nat → Int32) × (Nat → Int32) × (Nat → Int32) × Int32 × Int32 × Int32 × (Nat → Int32) × (Nat → Int32)) → Prop} {post : (Int × (Nat → Int) × (Nat → Int) × (Nat → Int) × (Nat → Int) × (Nat → Int) × Int × Int × Int × (Nat → Int) × (Nat → Int)) → Prop} (hv : iv_X0_copy f_lanes f_from f_to f_width f_length f_shut f_safeRooms f_people f_led f_notLed f_entering g_lanes g_from g_to g_width g_length g_shut g_safeRooms g_people g_led g_notLed g_entering post) (hp : ∀ (u : Int × (Nat → Int) × (Nat → Int) × (Nat → Int) × (Nat → Int) × (Nat → Int) × Int × Int × Int × (Nat → Int) × (Nat → Int)) (y : Int32 × (Nat → Int32) × (Nat → Int32) × (Nat → Int32) × (Nat → Int32) × (Nat → Int32) × Int32 × Int32 × Int32 × (Nat → Int32) × (Nat → Int32)), post u → y = (iz u.1, az u.2.1, az u.2.2.1, az u.2.2.2.1, az u.2.2.2.2.1, az u.2.2.2.2.2.1, iz u.2.2.2.2.2.2.1, iz u.2.2.2.2.2.2.2.1, iz u.2.2.2.2.2.2.2.2.1, az u.2.2.2.2.2.2.2.2.2.1, az u.2.2.2.2.2.2.2.2.2.2) → post0 y) : vc_X0_copy f_lanes' f_from' f_to' f_width' f_length' f_shut' f_safeRooms' f_people' f_led' f_notLed' f_entering' g_lanes' g_from' g_to' g_width' g_length' g_shut' g_safeRooms' g_people' g_led' g_notLed' g_entering' post0 := by
  subst e_f_lanes
  subst e_f_from
  subst e_f_to
  subst e_f_width
  subst e_f_length
  subst e_f_shut
  subst e_f_safeRooms
  subst e_f_people
  subst e_f_led
  subst e_f_notLed
  subst e_f_entering
  subst e_g_lanes
  subst e_g_from
  subst e_g_to
  subst e_g_width
  subst e_g_length
  subst e_g_shut
  subst e_g_safeRooms
  subst e_g_people
  subst e_g_led
  subst e_g_notLed
  subst e_g_entering
  rw [iv_X0_copy] at hv
  rw [vc_X0_copy]
  have e_1 : (va_cpy (az g_from) (az f_from) 0 0 16) = az (va_cpy g_from f_from 0 0 16) := z_cpy (by first | with_reducible rfl | simp only [zl, iz_add, iz_sub, iz_mul, iz_neg]) (by first | with_reducible rfl | simp only [zl, iz_add, iz_sub, iz_mul, iz_neg])
  try rw [e_1]
  have e_2 : (va_cpy (az g_to) (az f_to) 0 0 16) = az (va_cpy g_to f_to 0 0 16) := z_cpy (by first | with_reducible rfl | simp only [zl, iz_add, iz_sub, iz_mul, iz_neg]) (by first | with_reducible rfl | simp only [zl, iz_add, iz_sub, iz_mul, iz_neg])
  try rw [e_2]
  have e_3 : (va_cpy (az g_width) (az f_width) 0 0 16) = az (va_cpy g_width f_width 0 0 16) := z_cpy (by first | with_reducible rfl | simp only [zl, iz_add, iz_sub, iz_mul, iz_neg]) (by first | with_reducible rfl | simp only [zl, iz_add, iz_sub, iz_mul, iz_neg])
  try rw [e_3]
  have e_4 : (va_cpy (az g_length) (az f_length) 0 0 16) = az (va_cpy g_length f_length 0 0 16) := z_cpy (by first | with_reducible rfl | simp only [zl, iz_add, iz_sub, iz_mul, iz_neg]) (by first | with_reducible rfl | simp only [zl, iz_add, iz_sub, iz_mul, iz_neg])
  try rw [e_4]
  have e_5 : (va_cpy (az g_shut) (az f_shut) 0 0 16) = az (va_cpy g_shut f_shut 0 0 16) := z_cpy (by first | with_reducible rfl | simp only [zl, iz_add, iz_sub, iz_mul, iz_neg]) (by first | with_reducible rfl | simp only [zl, iz_add, iz_sub, iz_mul, iz_neg])
  try rw [e_5]
  have e_6 : (va_cpy (az g_notLed) (az f_notLed) 0 0 6) = az (va_cpy g_notLed f_notLed 0 0 6) := z_cpy (by first | with_reducible rfl | simp only [zl, iz_add, iz_sub, iz_mul, iz_neg]) (by first | with_reducible rfl | simp only [zl, iz_add, iz_sub, iz_mul, iz_neg])
  try rw [e_6]
  have e_7 : (va_cpy (az g_entering) (az f_entering) 0 0 976) = az (va_cpy g_entering f_entering 0 0 976) := z_cpy (by first | with_reducible rfl | simp only [zl, iz_add, iz_sub, iz_mul, iz_neg]) (by first | with_reducible rfl | simp only [zl, iz_add, iz_sub, iz_mul, iz_neg])
  try rw [e_7]
  exact hp _ _ hv (by first | with_reducible rfl | simp only [zl, iz_add, iz_sub, iz_mul, iz_neg])

def iv_X0_setWidth (a1 : Int) (a2 : Int) (f_width : (Nat → Int)) (post : (Nat → Int) → Prop) : Prop :=
  ((0 ≤ (6 + a1) ∧ (6 + a1) < 16) ∧ post (uz f_width ((6 + a1)).toNat a2))

set_option maxHeartbeats 4000000 in
theorem lift_X0_setWidth {a1' : Int32} {a1 : Int} {a2' : Int32} {a2 : Int} {f_width' : (Nat → Int32)} {f_width : (Nat → Int)} (e_a1 : a1' = iz a1) (e_a2 : a2' = iz a2) (e_f_width : f_width' = az f_width) {post0 : (Nat → Int32) → Prop} {post : (Nat → Int) → Prop} (hv : iv_X0_setWidth a1 a2 f_width post) (hp : ∀ (u : (Nat → Int)) (y : (Nat → Int32)), post u → y = az u → post0 y) : vc_X0_setWidth a1' a2' f_width' post0 := by
  subst e_a1
  subst e_a2
  subst e_f_width
  rw [iv_X0_setWidth] at hv
  rw [vc_X0_setWidth]
  obtain ⟨hi_1, hv⟩ := hv
  refine ⟨z_in (by first | with_reducible rfl | simp only [zl, iz_add, iz_sub, iz_mul, iz_neg]) hi_1 (by decide), ?_⟩
  have e_2 : (upd (az f_width) ((6 + (iz a1))).toNatClampNeg (iz a2)) = az (uz f_width ((6 + a1)).toNat a2) := z_upd (by first | with_reducible rfl | simp only [zl, iz_add, iz_sub, iz_mul, iz_neg]) (by first | with_reducible rfl | simp only [zl, iz_add, iz_sub, iz_mul, iz_neg]) (by first | with_reducible rfl | simp only [zl, iz_add, iz_sub, iz_mul, iz_neg]) hi_1 (by decide)
  try rw [e_2]
  exact hp _ _ hv (by first | with_reducible rfl | simp only [zl, iz_add, iz_sub, iz_mul, iz_neg])

def iv_X0_setShut (a1 : Int) (a2 : Int) (f_shut : (Nat → Int)) (post : (Nat → Int) → Prop) : Prop :=
  ((0 ≤ (6 + a1) ∧ (6 + a1) < 16) ∧ post (uz f_shut ((6 + a1)).toNat a2))

set_option maxHeartbeats 4000000 in
theorem lift_X0_setShut {a1' : Int32} {a1 : Int} {a2' : Int32} {a2 : Int} {f_shut' : (Nat → Int32)} {f_shut : (Nat → Int)} (e_a1 : a1' = iz a1) (e_a2 : a2' = iz a2) (e_f_shut : f_shut' = az f_shut) {post0 : (Nat → Int32) → Prop} {post : (Nat → Int) → Prop} (hv : iv_X0_setShut a1 a2 f_shut post) (hp : ∀ (u : (Nat → Int)) (y : (Nat → Int32)), post u → y = az u → post0 y) : vc_X0_setShut a1' a2' f_shut' post0 := by
  subst e_a1
  subst e_a2
  subst e_f_shut
  rw [iv_X0_setShut] at hv
  rw [vc_X0_setShut]
  obtain ⟨hi_1, hv⟩ := hv
  refine ⟨z_in (by first | with_reducible rfl | simp only [zl, iz_add, iz_sub, iz_mul, iz_neg]) hi_1 (by decide), ?_⟩
  have e_2 : (upd (az f_shut) ((6 + (iz a1))).toNatClampNeg (iz a2)) = az (uz f_shut ((6 + a1)).toNat a2) := z_upd (by first | with_reducible rfl | simp only [zl, iz_add, iz_sub, iz_mul, iz_neg]) (by first | with_reducible rfl | simp only [zl, iz_add, iz_sub, iz_mul, iz_neg]) (by first | with_reducible rfl | simp only [zl, iz_add, iz_sub, iz_mul, iz_neg]) hi_1 (by decide)
  try rw [e_2]
  exact hp _ _ hv (by first | with_reducible rfl | simp only [zl, iz_add, iz_sub, iz_mul, iz_neg])

def iv_X0_lastUse_L11 (K : Prop) (post : Int → Unit → Prop) (b2 : Int) (f_entering : (Nat → Int)) : Nat → Int → Prop
  | 0, _ => False
  | n + 1, v3 =>
    ((sm v3 ∧ sm 0) ∧ ((v3 < 0 → K) ∧ (¬ v3 < 0 → ((0 ≤ (b2 + v3) ∧ (b2 + v3) < 976) ∧ ((sm (f_entering ((b2 + v3)).toNat) ∧ sm 0) ∧ (((f_entering ((b2 + v3)).toNat) ≤ 0 → (∀ x3_9 : Int, x3_9 = v3 + (-1) → iv_X0_lastUse_L11 K post b2 f_entering n x3_9)) ∧ (¬ (f_entering ((b2 + v3)).toNat) ≤ 0 → post v3 ())))))))

set_option maxHeartbeats 4000000 in
theorem lift_X0_lastUse_L11 {K0 : Prop} {K : Prop} {post0 : Int32 → Unit → Prop} {post : Int → Unit → Prop} {b2' : Int32} {b2 : Int} {f_entering' : (Nat → Int32)} {f_entering : (Nat → Int)} (e_b2 : b2' = iz b2) (e_f_entering : f_entering' = az f_entering)  (hKx : K → K0) (hp : ∀ (r : Int) (u : Unit) (x : Int32) (y : Unit), post r u → x = iz r → y = () → post0 x y) :
    ∀ (n : Nat) (v3' : Int32) (v3 : Int) (e_v3 : v3' = iz v3), iv_X0_lastUse_L11 K post b2 f_entering n v3 → vc_X0_lastUse_L11 K0 post0 b2' f_entering' n v3' := by
  subst e_b2
  subst e_f_entering
  intro n
  induction n with
  | zero =>
    intro v3' v3 e_v3 hv
    exact False.elim hv
  | succ n ih =>
    intro v3' v3 e_v3 hv
    subst e_v3
    rw [iv_X0_lastUse_L11] at hv
    rw [vc_X0_lastUse_L11]
    obtain ⟨hs_3, hv⟩ := hv
    have q_4 := z_lt (x := (iz v3)) (a := v3) (by first | with_reducible rfl | simp only [zl, iz_add, iz_sub, iz_mul, iz_neg]) (y := 0) (b := 0) (by first | with_reducible rfl | simp only [zl, iz_add, iz_sub, iz_mul, iz_neg]) hs_3.1 hs_3.2
    refine ⟨fun c9 => ?_, fun c9 => ?_⟩
    · have hv := hv.1 (q_4.mp c9)
      exact hKx   hv 
    · have hv := hv.2 (fun z9 => c9 (q_4.mpr z9))
      obtain ⟨hi_5, hv⟩ := hv
      refine ⟨z_in (by first | with_reducible rfl | simp only [zl, iz_add, iz_sub, iz_mul, iz_neg]) hi_5 (by decide), ?_⟩
      have e_6 : ((az f_entering) (((iz b2) + (iz v3))).toNatClampNeg) = iz (f_entering ((b2 + v3)).toNat) := z_at (by first | with_reducible rfl | simp only [zl, iz_add, iz_sub, iz_mul, iz_neg]) (by first | with_reducible rfl | simp only [zl, iz_add, iz_sub, iz_mul, iz_neg]) hi_5 (by decide)
      try rw [e_6]
      obtain ⟨hs_7, hv⟩ := hv
      have q_8 := z_le (x := (iz (f_entering ((b2 + v3)).toNat))) (a := (f_entering ((b2 + v3)).toNat)) (by first | with_reducible rfl | simp only [zl, iz_add, iz_sub, iz_mul, iz_neg]) (y := 0) (b := 0) (by first | with_reducible rfl | simp only [zl, iz_add, iz_sub, iz_mul, iz_neg]) hs_7.1 hs_7.2
      refine ⟨fun c9 => ?_, fun c9 => ?_⟩
      · have hv := hv.1 (q_8.mp c9)
        intro y_10 hy_10
        obtain ⟨x3_9, hx3_9⟩ : ∃ z : Int, z = v3 + (-1) := ⟨_, rfl⟩
        have hv := hv x3_9 hx3_9
        have ey_10 : y_10 = iz x3_9 := by rw [hy_10, hx3_9]; try exact (by first | with_reducible rfl | simp only [zl, iz_add, iz_sub, iz_mul, iz_neg])
        subst ey_10
        exact ih _ x3_9 (by first | with_reducible rfl | simp only [zl, iz_add, iz_sub, iz_mul, iz_neg]) hv
      · have hv := hv.2 (fun z9 => c9 (q_8.mpr z9))
        exact hp _ _ _ _ hv (by first | with_reducible rfl | simp only [zl, iz_add, iz_sub, iz_mul, iz_neg]) (by first | with_reducible rfl | simp only [zl, iz_add, iz_sub, iz_mul, iz_neg])

def iv_X0_lastUse (a1 : Int) (f_entering : (Nat → Int)) (post : Int → Unit → Prop) : Prop :=
  (∀ x2_1 : Int, x2_1 = ((6 + a1) * 61) → (∃ n_11, iv_X0_lastUse_L11 (post (-1) ()) post x2_1 f_entering n_11 60))

set_option maxHeartbeats 4000000 in
theorem lift_X0_lastUse {a1' : Int32} {a1 : Int} {f_entering' : (Nat → Int32)} {f_entering : (Nat → Int)} (e_a1 : a1' = iz a1) (e_f_entering : f_entering' = az f_entering) {post0 : Int32 → Unit → Prop} {post : Int → Unit → Prop} (hv : iv_X0_lastUse a1 f_entering post) (hp : ∀ (r : Int) (u : Unit) (x : Int32) (y : Unit), post r u → x = iz r → y = () → post0 x y) : vc_X0_lastUse a1' f_entering' post0 := by
  subst e_a1
  subst e_f_entering
  rw [iv_X0_lastUse] at hv
  rw [vc_X0_lastUse]
  intro y_2 hy_2
  obtain ⟨x2_1, hx2_1⟩ : ∃ z : Int, z = ((6 + a1) * 61) := ⟨_, rfl⟩
  have hv := hv x2_1 hx2_1
  have ey_2 : y_2 = iz x2_1 := by rw [hy_2, hx2_1]; try exact (by first | with_reducible rfl | simp only [zl, iz_add, iz_sub, iz_mul, iz_neg])
  subst ey_2
  obtain ⟨n_11, hv⟩ := hv
  refine ⟨n_11, lift_X0_lastUse_L11 (by first | with_reducible rfl | simp only [zl, iz_add, iz_sub, iz_mul, iz_neg]) (by first | with_reducible rfl | simp only [zl, iz_add, iz_sub, iz_mul, iz_neg]) (fun   hv  => ?_) hp n_11 _ 60 (by first | with_reducible rfl | simp only [zl, iz_add, iz_sub, iz_mul, iz_neg]) hv⟩
  exact hp _ _ _ _ hv (by first | with_reducible rfl | simp only [zl, iz_add, iz_sub, iz_mul, iz_neg]) (by first | with_reducible rfl | simp only [zl, iz_add, iz_sub, iz_mul, iz_neg])

def iv_X0_reachedRoomNotLed_L2 (K : Prop) (post : Int → Unit → Prop) (f_notLed : (Nat → Int)) (f_latest : (Nat → Int)) : Nat → Int → Prop
  | 0, _ => False
  | n + 1, v1 =>
    ((sm 6 ∧ sm v1) ∧ ((6 ≤ v1 → K) ∧ (¬ 6 ≤ v1 → ((0 ≤ v1 ∧ v1 < 6) ∧ ((sm (f_notLed v1.toNat) ∧ sm 0) ∧ (((f_notLed v1.toNat) ≤ 0 → (∀ x1_7 : Int, x1_7 = v1 + 1 → iv_X0_reachedRoomNotLed_L2 K post f_notLed f_latest n x1_7)) ∧ (¬ (f_notLed v1.toNat) ≤ 0 → ((0 ≤ v1 ∧ v1 < 6) ∧ ((sm (f_latest v1.toNat) ∧ sm 0) ∧ (((f_latest v1.toNat) < 0 → (∀ x1_13 : Int, x1_13 = v1 + 1 → iv_X0_reachedRoomNotLed_L2 K post f_notLed f_latest n x1_13)) ∧ (¬ (f_latest v1.toNat) < 0 → post v1 ())))))))))))

set_option maxHeartbeats 4000000 in
theorem lift_X0_reachedRoomNotLed_L2 {K0 : Prop} {K : Prop} {post0 : Int32 → Unit → Prop} {post : Int → Unit → Prop} {f_notLed' : (Nat → Int32)} {f_notLed : (Nat → Int)} {f_latest' : (Nat → Int32)} {f_latest : (Nat → Int)} (e_f_notLed : f_notLed' = az f_notLed) (e_f_latest : f_latest' = az f_latest)  (hKx : K → K0) (hp : ∀ (r : Int) (u : Unit) (x : Int32) (y : Unit), post r u → x = iz r → y = () → post0 x y) :
    ∀ (n : Nat) (v1' : Int32) (v1 : Int) (e_v1 : v1' = iz v1), iv_X0_reachedRoomNotLed_L2 K post f_notLed f_latest n v1 → vc_X0_reachedRoomNotLed_L2 K0 post0 f_notLed' f_latest' n v1' := by
  subst e_f_notLed
  subst e_f_latest
  intro n
  induction n with
  | zero =>
    intro v1' v1 e_v1 hv
    exact False.elim hv
  | succ n ih =>
    intro v1' v1 e_v1 hv
    subst e_v1
    rw [iv_X0_reachedRoomNotLed_L2] at hv
    rw [vc_X0_reachedRoomNotLed_L2]
    obtain ⟨hs_1, hv⟩ := hv
    have q_2 := z_le (x := 6) (a := 6) (by first | with_reducible rfl | simp only [zl, iz_add, iz_sub, iz_mul, iz_neg]) (y := (iz v1)) (b := v1) (by first | with_reducible rfl | simp only [zl, iz_add, iz_sub, iz_mul, iz_neg]) hs_1.1 hs_1.2
    refine ⟨fun c9 => ?_, fun c9 => ?_⟩
    · have hv := hv.1 (q_2.mp c9)
      exact hKx   hv 
    · have hv := hv.2 (fun z9 => c9 (q_2.mpr z9))
      obtain ⟨hi_3, hv⟩ := hv
      refine ⟨z_in (by first | with_reducible rfl | simp only [zl, iz_add, iz_sub, iz_mul, iz_neg]) hi_3 (by decide), ?_⟩
      have e_4 : ((az f_notLed) ((iz v1)).toNatClampNeg) = iz (f_notLed v1.toNat) := z_at (by first | with_reducible rfl | simp only [zl, iz_add, iz_sub, iz_mul, iz_neg]) (by first | with_reducible rfl | simp only [zl, iz_add, iz_sub, iz_mul, iz_neg]) hi_3 (by decide)
      try rw [e_4]
      obtain ⟨hs_5, hv⟩ := hv
      have q_6 := z_le (x := (iz (f_notLed v1.toNat))) (a := (f_notLed v1.toNat)) (by first | with_reducible rfl | simp only [zl, iz_add, iz_sub, iz_mul, iz_neg]) (y := 0) (b := 0) (by first | with_reducible rfl | simp only [zl, iz_add, iz_sub, iz_mul, iz_neg]) hs_5.1 hs_5.2
      refine ⟨fun c9 => ?_, fun c9 => ?_⟩
      · have hv := hv.1 (q_6.mp c9)
        intro y_8 hy_8
        obtain ⟨x1_7, hx1_7⟩ : ∃ z : Int, z = v1 + 1 := ⟨_, rfl⟩
        have hv := hv x1_7 hx1_7
        have ey_8 : y_8 = iz x1_7 := by rw [hy_8, hx1_7]; try exact (by first | with_reducible rfl | simp only [zl, iz_add, iz_sub, iz_mul, iz_neg])
        subst ey_8
        exact ih _ x1_7 (by first | with_reducible rfl | simp only [zl, iz_add, iz_sub, iz_mul, iz_neg]) hv
      · have hv := hv.2 (fun z9 => c9 (q_6.mpr z9))
        obtain ⟨hi_9, hv⟩ := hv
        refine ⟨z_in (by first | with_reducible rfl | simp only [zl, iz_add, iz_sub, iz_mul, iz_neg]) hi_9 (by decide), ?_⟩
        have e_10 : ((az f_latest) ((iz v1)).toNatClampNeg) = iz (f_latest v1.toNat) := z_at (by first | with_reducible rfl | simp only [zl, iz_add, iz_sub, iz_mul, iz_neg]) (by first | with_reducible rfl | simp only [zl, iz_add, iz_sub, iz_mul, iz_neg]) hi_9 (by decide)
        try rw [e_10]
        obtain ⟨hs_11, hv⟩ := hv
        have q_12 := z_lt (x := (iz (f_latest v1.toNat))) (a := (f_latest v1.toNat)) (by first | with_reducible rfl | simp only [zl, iz_add, iz_sub, iz_mul, iz_neg]) (y := 0) (b := 0) (by first | with_reducible rfl | simp only [zl, iz_add, iz_sub, iz_mul, iz_neg]) hs_11.1 hs_11.2
        refine ⟨fun c9 => ?_, fun c9 => ?_⟩
        · have hv := hv.1 (q_12.mp c9)
          intro y_14 hy_14
          obtain ⟨x1_13, hx1_13⟩ : ∃ z : Int, z = v1 + 1 := ⟨_, rfl⟩
          have hv := hv x1_13 hx1_13
          have ey_14 : y_14 = iz x1_13 := by rw [hy_14, hx1_13]; try exact (by first | with_reducible rfl | simp only [zl, iz_add, iz_sub, iz_mul, iz_neg])
          subst ey_14
          exact ih _ x1_13 (by first | with_reducible rfl | simp only [zl, iz_add, iz_sub, iz_mul, iz_neg]) hv
        · have hv := hv.2 (fun z9 => c9 (q_12.mpr z9))
          exact hp _ _ _ _ hv (by first | with_reducible rfl | simp only [zl, iz_add, iz_sub, iz_mul, iz_neg]) (by first | with_reducible rfl | simp only [zl, iz_add, iz_sub, iz_mul, iz_neg])

def iv_X0_reachedRoomNotLed (f_notLed : (Nat → Int)) (f_latest : (Nat → Int)) (post : Int → Unit → Prop) : Prop :=
  (∃ n_15, iv_X0_reachedRoomNotLed_L2 (post (-1) ()) post f_notLed f_latest n_15 0)

set_option maxHeartbeats 4000000 in
theorem lift_X0_reachedRoomNotLed {f_notLed' : (Nat → Int32)} {f_notLed : (Nat → Int)} {f_latest' : (Nat → Int32)} {f_latest : (Nat → Int)} (e_f_notLed : f_notLed' = az f_notLed) (e_f_latest : f_latest' = az f_latest) {post0 : Int32 → Unit → Prop} {post : Int → Unit → Prop} (hv : iv_X0_reachedRoomNotLed f_notLed f_latest post) (hp : ∀ (r : Int) (u : Unit) (x : Int32) (y : Unit), post r u → x = iz r → y = () → post0 x y) : vc_X0_reachedRoomNotLed f_notLed' f_latest' post0 := by
  subst e_f_notLed
  subst e_f_latest
  rw [iv_X0_reachedRoomNotLed] at hv
  rw [vc_X0_reachedRoomNotLed]
  obtain ⟨n_15, hv⟩ := hv
  refine ⟨n_15, lift_X0_reachedRoomNotLed_L2 (by first | with_reducible rfl | simp only [zl, iz_add, iz_sub, iz_mul, iz_neg]) (by first | with_reducible rfl | simp only [zl, iz_add, iz_sub, iz_mul, iz_neg]) (fun   hv  => ?_) hp n_15 _ 0 (by first | with_reducible rfl | simp only [zl, iz_add, iz_sub, iz_mul, iz_neg]) hv⟩
  exact hp _ _ _ _ hv (by first | with_reducible rfl | simp only [zl, iz_add, iz_sub, iz_mul, iz_neg]) (by first | with_reducible rfl | simp only [zl, iz_add, iz_sub, iz_mul, iz_neg])

def iv_X0_reach_L16 (K : (Nat → Int) → Prop) (b1 : Int) (b2 : Int) (b4 : Int) : Nat → Int → (Nat → Int) → Prop
  | 0, _, _ => False
  | n + 1, v5, f_step =>
    ((sm b2 ∧ sm v5) ∧ ((b2 ≤ v5 → K f_step) ∧ (¬ b2 ≤ v5 → ((0 ≤ (b4 + v5) ∧ (b4 + v5) < 366) ∧ (∀ x5_11 : Int, x5_11 = v5 + 1 → iv_X0_reach_L16 K b1 b2 b4 n x5_11 (uz f_step ((b4 + v5)).toNat (b1 + 1)))))))

set_option maxHeartbeats 4000000 in
theorem lift_X0_reach_L16 {K0 : (Nat → Int32) → Prop} {K : (Nat → Int) → Prop} {b1' : Int32} {b1 : Int} {b2' : Int32} {b2 : Int} {b4' : Int32} {b4 : Int} (e_b1 : b1' = iz b1) (e_b2 : b2' = iz b2) (e_b4 : b4' = iz b4)  (hKx : ∀ (k_f_step' : (Nat → Int32)) (k_f_step : (Nat → Int)), K k_f_step → k_f_step' = az k_f_step →  K0 k_f_step') :
    ∀ (n : Nat) (v5' : Int32) (f_step' : (Nat → Int32)) (v5 : Int) (f_step : (Nat → Int)) (e_v5 : v5' = iz v5) (e_f_step : f_step' = az f_step), iv_X0_reach_L16 K b1 b2 b4 n v5 f_step → vc_X0_reach_L16 K0 b1' b2' b4' n v5' f_step' := by
  subst e_b1
  subst e_b2
  subst e_b4
  intro n
  induction n with
  | zero =>
    intro v5' f_step' v5 f_step e_v5 e_f_step hv
    exact False.elim hv
  | succ n ih =>
    intro v5' f_step' v5 f_step e_v5 e_f_step hv
    subst e_v5
    subst e_f_step
    rw [iv_X0_reach_L16] at hv
    rw [vc_X0_reach_L16]
    obtain ⟨hs_7, hv⟩ := hv
    have q_8 := z_le (x := (iz b2)) (a := b2) (by first | with_reducible rfl | simp only [zl, iz_add, iz_sub, iz_mul, iz_neg]) (y := (iz v5)) (b := v5) (by first | with_reducible rfl | simp only [zl, iz_add, iz_sub, iz_mul, iz_neg]) hs_7.1 hs_7.2
    refine ⟨fun c9 => ?_, fun c9 => ?_⟩
    · have hv := hv.1 (q_8.mp c9)
      exact hKx _ f_step hv (by first | with_reducible rfl | simp only [zl, iz_add, iz_sub, iz_mul, iz_neg])
    · have hv := hv.2 (fun z9 => c9 (q_8.mpr z9))
      obtain ⟨hi_9, hv⟩ := hv
      refine ⟨z_in (by first | with_reducible rfl | simp only [zl, iz_add, iz_sub, iz_mul, iz_neg]) hi_9 (by decide), ?_⟩
      have e_10 : (upd (az f_step) (((iz b4) + (iz v5))).toNatClampNeg ((iz b1) + 1)) = az (uz f_step ((b4 + v5)).toNat (b1 + 1)) := z_upd (by first | with_reducible rfl | simp only [zl, iz_add, iz_sub, iz_mul, iz_neg]) (by first | with_reducible rfl | simp only [zl, iz_add, iz_sub, iz_mul, iz_neg]) (by first | with_reducible rfl | simp only [zl, iz_add, iz_sub, iz_mul, iz_neg]) hi_9 (by decide)
      try rw [e_10]
      intro y_12 hy_12
      obtain ⟨x5_11, hx5_11⟩ : ∃ z : Int, z = v5 + 1 := ⟨_, rfl⟩
      have hv := hv x5_11 hx5_11
      have ey_12 : y_12 = iz x5_11 := by rw [hy_12, hx5_11]; try exact (by first | with_reducible rfl | simp only [zl, iz_add, iz_sub, iz_mul, iz_neg])
      subst ey_12
      exact ih _ _ x5_11 (uz f_step ((b4 + v5)).toNat (b1 + 1)) (by first | with_reducible rfl | simp only [zl, iz_add, iz_sub, iz_mul, iz_neg]) (by first | with_reducible rfl | simp only [zl, iz_add, iz_sub, iz_mul, iz_neg]) hv

def iv_X0_reach (a1 : Int) (a2 : Int) (a3 : Int) (f_latest : (Nat → Int)) (f_step : (Nat → Int)) (post : ((Nat → Int) × (Nat → Int)) → Prop) : Prop :=
  (∀ x4_1 : Int, x4_1 = (a1 * 61) → ((0 ≤ a1 ∧ a1 < 6) ∧ (∀ x5_5 : Int, x5_5 = ((f_latest a1.toNat) + 1) → (∃ n_18, iv_X0_reach_L16 (fun f_step_13 => ((0 ≤ (x4_1 + a2) ∧ (x4_1 + a2) < 366) ∧ ((0 ≤ a1 ∧ a1 < 6) ∧ post ((uz f_latest a1.toNat a2), (uz f_step_13 ((x4_1 + a2)).toNat a3)))))  a1 a2 x4_1 n_18 x5_5 f_step))))

set_option maxHeartbeats 4000000 in
theorem lift_X0_reach {a1' : Int32} {a1 : Int} {a2' : Int32} {a2 : Int} {a3' : Int32} {a3 : Int} {f_latest' : (Nat → Int32)} {f_latest : (Nat → Int)} {f_step' : (Nat → Int32)} {f_step : (Nat → Int)} (e_a1 : a1' = iz a1) (e_a2 : a2' = iz a2) (e_a3 : a3' = iz a3) (e_f_latest : f_latest' = az f_latest) (e_f_step : f_step' = az f_step) {post0 : ((Nat → Int32) × (Nat → Int32)) → Prop} {post : ((Nat → Int) × (Nat → Int)) → Prop} (hv : iv_X0_reach a1 a2 a3 f_latest f_step post) (hp : ∀ (u : (Nat → Int) × (Nat → Int)) (y : (Nat → Int32) × (Nat → Int32)), post u → y = (az u.1, az u.2) → post0 y) : vc_X0_reach a1' a2' a3' f_latest' f_step' post0 := by
  subst e_a1
  subst e_a2
  subst e_a3
  subst e_f_latest
  subst e_f_step
  rw [iv_X0_reach] at hv
  rw [vc_X0_reach]
  intro y_2 hy_2
  obtain ⟨x4_1, hx4_1⟩ : ∃ z : Int, z = (a1 * 61) := ⟨_, rfl⟩
  have hv := hv x4_1 hx4_1
  have ey_2 : y_2 = iz x4_1 := by rw [hy_2, hx4_1]; try exact (by first | with_reducible rfl | simp only [zl, iz_add, iz_sub, iz_mul, iz_neg])
  subst ey_2
  obtain ⟨hi_3, hv⟩ := hv
  refine ⟨z_in (by first | with_reducible rfl | simp only [zl, iz_add, iz_sub, iz_mul, iz_neg]) hi_3 (by decide), ?_⟩
  have e_4 : ((az f_latest) ((iz a1)).toNatClampNeg) = iz (f_latest a1.toNat) := z_at (by first | with_reducible rfl | simp only [zl, iz_add, iz_sub, iz_mul, iz_neg]) (by first | with_reducible rfl | simp only [zl, iz_add, iz_sub, iz_mul, iz_neg]) hi_3 (by decide)
  try rw [e_4]
  intro y_6 hy_6
  obtain ⟨x5_5, hx5_5⟩ : ∃ z : Int, z = ((f_latest a1.toNat) + 1) := ⟨_, rfl⟩
  have hv := hv x5_5 hx5_5
  have ey_6 : y_6 = iz x5_5 := by rw [hy_6, hx5_5]; try exact (by first | with_reducible rfl | simp only [zl, iz_add, iz_sub, iz_mul, iz_neg])
  subst ey_6
  obtain ⟨n_18, hv⟩ := hv
  refine ⟨n_18, lift_X0_reach_L16 (by first | with_reducible rfl | simp only [zl, iz_add, iz_sub, iz_mul, iz_neg]) (by first | with_reducible rfl | simp only [zl, iz_add, iz_sub, iz_mul, iz_neg]) (by first | with_reducible rfl | simp only [zl, iz_add, iz_sub, iz_mul, iz_neg]) (fun y_19 f_step_13 hv ey_20 => ?_)  n_18 _ _ x5_5 f_step (by first | with_reducible rfl | simp only [zl, iz_add, iz_sub, iz_mul, iz_neg]) (by first | with_reducible rfl | simp only [zl, iz_add, iz_sub, iz_mul, iz_neg]) hv⟩
  subst ey_20
  obtain ⟨hi_14, hv⟩ := hv
  refine ⟨z_in (by first | with_reducible rfl | simp only [zl, iz_add, iz_sub, iz_mul, iz_neg]) hi_14 (by decide), ?_⟩
  have e_15 : (upd (az f_step_13) (((iz x4_1) + (iz a2))).toNatClampNeg (iz a3)) = az (uz f_step_13 ((x4_1 + a2)).toNat a3) := z_upd (by first | with_reducible rfl | simp only [zl, iz_add, iz_sub, iz_mul, iz_neg]) (by first | with_reducible rfl | simp only [zl, iz_add, iz_sub, iz_mul, iz_neg]) (by first | with_reducible rfl | simp only [zl, iz_add, iz_sub, iz_mul, iz_neg]) hi_14 (by decide)
  try rw [e_15]
  obtain ⟨hi_16, hv⟩ := hv
  refine ⟨z_in (by first | with_reducible rfl | simp only [zl, iz_add, iz_sub, iz_mul, iz_neg]) hi_16 (by decide), ?_⟩
  have e_17 : (upd (az f_latest) ((iz a1)).toNatClampNeg (iz a2)) = az (uz f_latest a1.toNat a2) := z_upd (by first | with_reducible rfl | simp only [zl, iz_add, iz_sub, iz_mul, iz_neg]) (by first | with_reducible rfl | simp only [zl, iz_add, iz_sub, iz_mul, iz_neg]) (by first | with_reducible rfl | simp only [zl, iz_add, iz_sub, iz_mul, iz_neg]) hi_16 (by decide)
  try rw [e_17]
  exact hp _ _ hv (by first | with_reducible rfl | simp only [zl, iz_add, iz_sub, iz_mul, iz_neg])

def iv_X0_reachByEntering_L43 (K : Prop) (post : Int → ((Nat → Int) × (Nat → Int)) → Prop) (b1 : Int) (b2 : Int) (b3 : Int) (f_width : (Nat → Int)) (f_entering : (Nat → Int)) (f_latest : (Nat → Int)) (f_step : (Nat → Int)) : Nat → Int → Prop
  | 0, _ => False
  | n + 1, v4 =>
    ((0 ≤ b3 ∧ b3 < 6) ∧ ((sm v4 ∧ sm (f_latest b3.toNat)) ∧ ((v4 ≤ (f_latest b3.toNat) → K) ∧ (¬ v4 ≤ (f_latest b3.toNat) → ((0 ≤ (b2 + v4) ∧ (b2 + v4) < 976) ∧ ((0 ≤ b1 ∧ b1 < 16) ∧ ((sm (f_width b1.toNat) ∧ sm (f_entering ((b2 + v4)).toNat)) ∧ (((f_width b1.toNat) ≤ (f_entering ((b2 + v4)).toNat) → (∀ x4_29 : Int, x4_29 = v4 + (-1) → iv_X0_reachByEntering_L43 K post b1 b2 b3 f_width f_entering f_latest f_step n x4_29)) ∧ (¬ (f_width b1.toNat) ≤ (f_entering ((b2 + v4)).toNat) → (iv_X0_reach b3 v4 (b1 + 1) f_latest f_step (fun (u_31 : (Nat → Int) × (Nat → Int)) => post 1 (u_31.1, u_31.2))))))))))))

set_option maxHeartbeats 4000000 in
theorem lift_X0_reachByEntering_L43 {K0 : Prop} {K : Prop} {post0 : Int32 → ((Nat → Int32) × (Nat → Int32)) → Prop} {post : Int → ((Nat → Int) × (Nat → Int)) → Prop} {b1' : Int32} {b1 : Int} {b2' : Int32} {b2 : Int} {b3' : Int32} {b3 : Int} {f_width' : (Nat → Int32)} {f_width : (Nat → Int)} {f_entering' : (Nat → Int32)} {f_entering : (Nat → Int)} {f_latest' : (Nat → Int32)} {f_latest : (Nat → Int)} {f_step' : (Nat → Int32)} {f_step : (Nat → Int)} (e_b1 : b1' = iz b1) (e_b2 : b2' = iz b2) (e_b3 : b3' = iz b3) (e_f_width : f_width' = az f_width) (e_f_entering : f_entering' = az f_entering) (e_f_latest : f_latest' = az f_latest) (e_f_step : f_step' = az f_step)  (hKx : K → K0) (hp : ∀ (r : Int) (u : (Nat → Int) × (Nat → Int)) (x : Int32) (y : (Nat → Int32) × (Nat → Int32)), post r u → x = iz r → y = (az u.1, az u.2) → post0 x y) :
    ∀ (n : Nat) (v4' : Int32) (v4 : Int) (e_v4 : v4' = iz v4), iv_X0_reachByEntering_L43 K post b1 b2 b3 f_width f_entering f_latest f_step n v4 → vc_X0_reachByEntering_L43 K0 post0 b1' b2' b3' f_width' f_entering' f_latest' f_step' n v4' := by
  subst e_b1
  subst e_b2
  subst e_b3
  subst e_f_width
  subst e_f_entering
  subst e_f_latest
  subst e_f_step
  intro n
  induction n with
  | zero =>
    intro v4' v4 e_v4 hv
    exact False.elim hv
  | succ n ih =>
    intro v4' v4 e_v4 hv
    subst e_v4
    rw [iv_X0_reachByEntering_L43] at hv
    rw [vc_X0_reachByEntering_L43]
    obtain ⟨hi_19, hv⟩ := hv
    refine ⟨z_in (by first | with_reducible rfl | simp only [zl, iz_add, iz_sub, iz_mul, iz_neg]) hi_19 (by decide), ?_⟩
    have e_20 : ((az f_latest) ((iz b3)).toNatClampNeg) = iz (f_latest b3.toNat) := z_at (by first | with_reducible rfl | simp only [zl, iz_add, iz_sub, iz_mul, iz_neg]) (by first | with_reducible rfl | simp only [zl, iz_add, iz_sub, iz_mul, iz_neg]) hi_19 (by decide)
    try rw [e_20]
    obtain ⟨hs_21, hv⟩ := hv
    have q_22 := z_le (x := (iz v4)) (a := v4) (by first | with_reducible rfl | simp only [zl, iz_add, iz_sub, iz_mul, iz_neg]) (y := (iz (f_latest b3.toNat))) (b := (f_latest b3.toNat)) (by first | with_reducible rfl | simp only [zl, iz_add, iz_sub, iz_mul, iz_neg]) hs_21.1 hs_21.2
    refine ⟨fun c9 => ?_, fun c9 => ?_⟩
    · have hv := hv.1 (q_22.mp c9)
      exact hKx   hv 
    · have hv := hv.2 (fun z9 => c9 (q_22.mpr z9))
      obtain ⟨hi_23, hv⟩ := hv
      refine ⟨z_in (by first | with_reducible rfl | simp only [zl, iz_add, iz_sub, iz_mul, iz_neg]) hi_23 (by decide), ?_⟩
      have e_24 : ((az f_entering) (((iz b2) + (iz v4))).toNatClampNeg) = iz (f_entering ((b2 + v4)).toNat) := z_at (by first | with_reducible rfl | simp only [zl, iz_add, iz_sub, iz_mul, iz_neg]) (by first | with_reducible rfl | simp only [zl, iz_add, iz_sub, iz_mul, iz_neg]) hi_23 (by decide)
      try rw [e_24]
      obtain ⟨hi_25, hv⟩ := hv
      refine ⟨z_in (by first | with_reducible rfl | simp only [zl, iz_add, iz_sub, iz_mul, iz_neg]) hi_25 (by decide), ?_⟩
      have e_26 : ((az f_width) ((iz b1)).toNatClampNeg) = iz (f_width b1.toNat) := z_at (by first | with_reducible rfl | simp only [zl, iz_add, iz_sub, iz_mul, iz_neg]) (by first | with_reducible rfl | simp only [zl, iz_add, iz_sub, iz_mul, iz_neg]) hi_25 (by decide)
      try rw [e_26]
      obtain ⟨hs_27, hv⟩ := hv
      have q_28 := z_le (x := (iz (f_width b1.toNat))) (a := (f_width b1.toNat)) (by first | with_reducible rfl | simp only [zl, iz_add, iz_sub, iz_mul, iz_neg]) (y := (iz (f_entering ((b2 + v4)).toNat))) (b := (f_entering ((b2 + v4)).toNat)) (by first | with_reducible rfl | simp only [zl, iz_add, iz_sub, iz_mul, iz_neg]) hs_27.1 hs_27.2
      refine ⟨fun c9 => ?_, fun c9 => ?_⟩
      · have hv := hv.1 (q_28.mp c9)
        intro y_30 hy_30
        obtain ⟨x4_29, hx4_29⟩ : ∃ z : Int, z = v4 + (-1) := ⟨_, rfl⟩
        have hv := hv x4_29 hx4_29
        have ey_30 : y_30 = iz x4_29 := by rw [hy_30, hx4_29]; try exact (by first | with_reducible rfl | simp only [zl, iz_add, iz_sub, iz_mul, iz_neg])
        subst ey_30
        exact ih _ x4_29 (by first | with_reducible rfl | simp only [zl, iz_add, iz_sub, iz_mul, iz_neg]) hv
      · have hv := hv.2 (fun z9 => c9 (q_28.mpr z9))
        refine lift_X0_reach (by first | with_reducible rfl | simp only [zl, iz_add, iz_sub, iz_mul, iz_neg]) (by first | with_reducible rfl | simp only [zl, iz_add, iz_sub, iz_mul, iz_neg]) (by first | with_reducible rfl | simp only [zl, iz_add, iz_sub, iz_mul, iz_neg]) (by first | with_reducible rfl | simp only [zl, iz_add, iz_sub, iz_mul, iz_neg]) (by first | with_reducible rfl | simp only [zl, iz_add, iz_sub, iz_mul, iz_neg]) hv (fun u_31 y_33 hv eu_35 => ?_)
        subst eu_35
        try dsimp only
        exact hp _ _ _ _ hv (by first | with_reducible rfl | simp only [zl, iz_add, iz_sub, iz_mul, iz_neg]) (by first | with_reducible rfl | simp only [zl, iz_add, iz_sub, iz_mul, iz_neg])

def iv_X0_reachByEntering (a1 : Int) (f_from : (Nat → Int)) (f_to : (Nat → Int)) (f_width : (Nat → Int)) (f_length : (Nat → Int)) (f_shut : (Nat → Int)) (f_entering : (Nat → Int)) (f_latest : (Nat → Int)) (f_step : (Nat → Int)) (post : Int → ((Nat → Int) × (Nat → Int)) → Prop) : Prop :=
  (∀ x2_1 : Int, x2_1 = (a1 * 61) → ((0 ≤ a1 ∧ a1 < 16) ∧ (∀ x3_5 : Int, x3_5 = (f_from a1.toNat) → ((0 ≤ a1 ∧ a1 < 16) ∧ ((0 ≤ (f_to a1.toNat) ∧ (f_to a1.toNat) < 6) ∧ ((0 ≤ a1 ∧ a1 < 16) ∧ ((0 ≤ a1 ∧ a1 < 16) ∧ ((sm ((f_shut a1.toNat) - 1) ∧ sm ((f_latest ((f_to a1.toNat)).toNat) - (f_length a1.toNat))) ∧ (∀ x4_17 : Int, x4_17 = (if ((f_shut a1.toNat) - 1) < ((f_latest ((f_to a1.toNat)).toNat) - (f_length a1.toNat)) then ((f_shut a1.toNat) - 1) else ((f_latest ((f_to a1.toNat)).toNat) - (f_length a1.toNat))) → (∃ n_36, iv_X0_reachByEntering_L43 (post 0 (f_latest, f_step)) post a1 x2_1 x3_5 f_width f_entering f_latest f_step n_36 x4_17))))))))))

set_option maxHeartbeats 4000000 in
theorem lift_X0_reachByEntering {a1' : Int32} {a1 : Int} {f_from' : (Nat → Int32)} {f_from : (Nat → Int)} {f_to' : (Nat → Int32)} {f_to : (Nat → Int)} {f_width' : (Nat → Int32)} {f_width : (Nat → Int)} {f_length' : (Nat → Int32)} {f_length : (Nat → Int)} {f_shut' : (Nat → Int32)} {f_shut : (Nat → Int)} {f_entering' : (Nat → Int32)} {f_entering : (Nat → Int)} {f_latest' : (Nat → Int32)} {f_latest : (Nat → Int)} {f_step' : (Nat → Int32)} {f_step : (Nat → Int)} (e_a1 : a1' = iz a1) (e_f_from : f_from' = az f_from) (e_f_to : f_to' = az f_to) (e_f_width : f_width' = az f_width) (e_f_length : f_length' = az f_length) (e_f_shut : f_shut' = az f_shut) (e_f_entering : f_entering' = az f_entering) (e_f_latest : f_latest' = az f_latest) (e_f_step : f_step' = az f_step) {post0 : Int32 → ((Nat → Int32) × (Nat → Int32)) → Prop} {post : Int → ((Nat → Int) × (Nat → Int)) → Prop} (hv : iv_X0_reachByEntering a1 f_from f_to f_width f_length f_shut f_entering f_latest f_step post) (hp : ∀ (r : Int) (u : (Nat → Int) × (Nat → Int)) (x : Int32) (y : (Nat → Int32) × (Nat → Int32)), post r u → x = iz r → y = (az u.1, az u.2) → post0 x y) : vc_X0_reachByEntering a1' f_from' f_to' f_width' f_length' f_shut' f_entering' f_latest' f_step' post0 := by
  subst e_a1
  subst e_f_from
  subst e_f_to
  subst e_f_width
  subst e_f_length
  subst e_f_shut
  subst e_f_entering
  subst e_f_latest
  subst e_f_step
  rw [iv_X0_reachByEntering] at hv
  rw [vc_X0_reachByEntering]
  intro y_2 hy_2
  obtain ⟨x2_1, hx2_1⟩ : ∃ z : Int, z = (a1 * 61) := ⟨_, rfl⟩
  have hv := hv x2_1 hx2_1
  have ey_2 : y_2 = iz x2_1 := by rw [hy_2, hx2_1]; try exact (by first | with_reducible rfl | simp only [zl, iz_add, iz_sub, iz_mul, iz_neg])
  subst ey_2
  obtain ⟨hi_3, hv⟩ := hv
  refine ⟨z_in (by first | with_reducible rfl | simp only [zl, iz_add, iz_sub, iz_mul, iz_neg]) hi_3 (by decide), ?_⟩
  have e_4 : ((az f_from) ((iz a1)).toNatClampNeg) = iz (f_from a1.toNat) := z_at (by first | with_reducible rfl | simp only [zl, iz_add, iz_sub, iz_mul, iz_neg]) (by first | with_reducible rfl | simp only [zl, iz_add, iz_sub, iz_mul, iz_neg]) hi_3 (by decide)
  try rw [e_4]
  intro y_6 hy_6
  obtain ⟨x3_5, hx3_5⟩ : ∃ z : Int, z = (f_from a1.toNat) := ⟨_, rfl⟩
  have hv := hv x3_5 hx3_5
  have ey_6 : y_6 = iz x3_5 := by rw [hy_6, hx3_5]; try exact (by first | with_reducible rfl | simp only [zl, iz_add, iz_sub, iz_mul, iz_neg])
  subst ey_6
  obtain ⟨hi_7, hv⟩ := hv
  refine ⟨z_in (by first | with_reducible rfl | simp only [zl, iz_add, iz_sub, iz_mul, iz_neg]) hi_7 (by decide), ?_⟩
  have e_8 : ((az f_to) ((iz a1)).toNatClampNeg) = iz (f_to a1.toNat) := z_at (by first | with_reducible rfl | simp only [zl, iz_add, iz_sub, iz_mul, iz_neg]) (by first | with_reducible rfl | simp only [zl, iz_add, iz_sub, iz_mul, iz_neg]) hi_7 (by decide)
  try rw [e_8]
  obtain ⟨hi_9, hv⟩ := hv
  refine ⟨z_in (by first | with_reducible rfl | simp only [zl, iz_add, iz_sub, iz_mul, iz_neg]) hi_9 (by decide), ?_⟩
  have e_10 : ((az f_latest) ((iz (f_to a1.toNat))).toNatClampNeg) = iz (f_latest ((f_to a1.toNat)).toNat) := z_at (by first | with_reducible rfl | simp only [zl, iz_add, iz_sub, iz_mul, iz_neg]) (by first | with_reducible rfl | simp only [zl, iz_add, iz_sub, iz_mul, iz_neg]) hi_9 (by decide)
  try rw [e_10]
  obtain ⟨hi_11, hv⟩ := hv
  refine ⟨z_in (by first | with_reducible rfl | simp only [zl, iz_add, iz_sub, iz_mul, iz_neg]) hi_11 (by decide), ?_⟩
  have e_12 : ((az f_length) ((iz a1)).toNatClampNeg) = iz (f_length a1.toNat) := z_at (by first | with_reducible rfl | simp only [zl, iz_add, iz_sub, iz_mul, iz_neg]) (by first | with_reducible rfl | simp only [zl, iz_add, iz_sub, iz_mul, iz_neg]) hi_11 (by decide)
  try rw [e_12]
  obtain ⟨hi_13, hv⟩ := hv
  refine ⟨z_in (by first | with_reducible rfl | simp only [zl, iz_add, iz_sub, iz_mul, iz_neg]) hi_13 (by decide), ?_⟩
  have e_14 : ((az f_shut) ((iz a1)).toNatClampNeg) = iz (f_shut a1.toNat) := z_at (by first | with_reducible rfl | simp only [zl, iz_add, iz_sub, iz_mul, iz_neg]) (by first | with_reducible rfl | simp only [zl, iz_add, iz_sub, iz_mul, iz_neg]) hi_13 (by decide)
  try rw [e_14]
  obtain ⟨hc_15, hv⟩ := hv
  have e_16 : (if ((iz (f_shut a1.toNat)) - 1) < ((iz (f_latest ((f_to a1.toNat)).toNat)) - (iz (f_length a1.toNat))) then ((iz (f_shut a1.toNat)) - 1) else ((iz (f_latest ((f_to a1.toNat)).toNat)) - (iz (f_length a1.toNat)))) = iz (if ((f_shut a1.toNat) - 1) < ((f_latest ((f_to a1.toNat)).toNat) - (f_length a1.toNat)) then ((f_shut a1.toNat) - 1) else ((f_latest ((f_to a1.toNat)).toNat) - (f_length a1.toNat))) := z_min (by first | with_reducible rfl | simp only [zl, iz_add, iz_sub, iz_mul, iz_neg]) (by first | with_reducible rfl | simp only [zl, iz_add, iz_sub, iz_mul, iz_neg]) hc_15.1 hc_15.2
  try rw [e_16]
  intro y_18 hy_18
  obtain ⟨x4_17, hx4_17⟩ : ∃ z : Int, z = (if ((f_shut a1.toNat) - 1) < ((f_latest ((f_to a1.toNat)).toNat) - (f_length a1.toNat)) then ((f_shut a1.toNat) - 1) else ((f_latest ((f_to a1.toNat)).toNat) - (f_length a1.toNat))) := ⟨_, rfl⟩
  have hv := hv x4_17 hx4_17
  have ey_18 : y_18 = iz x4_17 := by rw [hy_18, hx4_17]; try exact (by first | with_reducible rfl | simp only [zl, iz_add, iz_sub, iz_mul, iz_neg])
  subst ey_18
  obtain ⟨n_36, hv⟩ := hv
  refine ⟨n_36, lift_X0_reachByEntering_L43 (by first | with_reducible rfl | simp only [zl, iz_add, iz_sub, iz_mul, iz_neg]) (by first | with_reducible rfl | simp only [zl, iz_add, iz_sub, iz_mul, iz_neg]) (by first | with_reducible rfl | simp only [zl, iz_add, iz_sub, iz_mul, iz_neg]) (by first | with_reducible rfl | simp only [zl, iz_add, iz_sub, iz_mul, iz_neg]) (by first | with_reducible rfl | simp only [zl, iz_add, iz_sub, iz_mul, iz_neg]) (by first | with_reducible rfl | simp only [zl, iz_add, iz_sub, iz_mul, iz_neg]) (by first | with_reducible rfl | simp only [zl, iz_add, iz_sub, iz_mul, iz_neg]) (fun   hv  => ?_) hp n_36 _ x4_17 (by first | with_reducible rfl | simp only [zl, iz_add, iz_sub, iz_mul, iz_neg]) hv⟩
  exact hp _ _ _ _ hv (by first | with_reducible rfl | simp only [zl, iz_add, iz_sub, iz_mul, iz_neg]) (by first | with_reducible rfl | simp only [zl, iz_add, iz_sub, iz_mul, iz_neg])

def iv_X0_reachByTakingBack_L37 (K : Prop) (post : Int → ((Nat → Int) × (Nat → Int)) → Prop) (b1 : Int) (b3 : Int) (b4 : Int) (f_length : (Nat → Int)) (f_entering : (Nat → Int)) (f_latest : (Nat → Int)) (f_step : (Nat → Int)) : Nat → Int → Prop
  | 0, _ => False
  | n + 1, v5 =>
    ((sm v5 ∧ sm 0) ∧ ((v5 < 0 → K) ∧ (¬ v5 < 0 → ((0 ≤ b1 ∧ b1 < 16) ∧ ((0 ≤ b4 ∧ b4 < 6) ∧ ((sm (v5 + (f_length b1.toNat)) ∧ sm (f_latest b4.toNat)) ∧ (((v5 + (f_length b1.toNat)) ≤ (f_latest b4.toNat) → K) ∧ (¬ (v5 + (f_length b1.toNat)) ≤ (f_latest b4.toNat) → ((0 ≤ (b3 + v5) ∧ (b3 + v5) < 976) ∧ ((sm (f_entering ((b3 + v5)).toNat) ∧ sm 0) ∧ (((f_entering ((b3 + v5)).toNat) ≤ 0 → (∀ x5_29 : Int, x5_29 = v5 + (-1) → iv_X0_reachByTakingBack_L37 K post b1 b3 b4 f_length f_entering f_latest f_step n x5_29)) ∧ (¬ (f_entering ((b3 + v5)).toNat) ≤ 0 → ((0 ≤ b1 ∧ b1 < 16) ∧ (iv_X0_reach b4 (v5 + (f_length b1.toNat)) (-(b1 + 1)) f_latest f_step (fun (u_33 : (Nat → Int) × (Nat → Int)) => post 1 (u_33.1, u_33.2))))))))))))))))

set_option maxHeartbeats 4000000 in
theorem lift_X0_reachByTakingBack_L37 {K0 : Prop} {K : Prop} {post0 : Int32 → ((Nat → Int32) × (Nat → Int32)) → Prop} {post : Int → ((Nat → Int) × (Nat → Int)) → Prop} {b1' : Int32} {b1 : Int} {b3' : Int32} {b3 : Int} {b4' : Int32} {b4 : Int} {f_length' : (Nat → Int32)} {f_length : (Nat → Int)} {f_entering' : (Nat → Int32)} {f_entering : (Nat → Int)} {f_latest' : (Nat → Int32)} {f_latest : (Nat → Int)} {f_step' : (Nat → Int32)} {f_step : (Nat → Int)} (e_b1 : b1' = iz b1) (e_b3 : b3' = iz b3) (e_b4 : b4' = iz b4) (e_f_length : f_length' = az f_length) (e_f_entering : f_entering' = az f_entering) (e_f_latest : f_latest' = az f_latest) (e_f_step : f_step' = az f_step)  (hKx : K → K0) (hp : ∀ (r : Int) (u : (Nat → Int) × (Nat → Int)) (x : Int32) (y : (Nat → Int32) × (Nat → Int32)), post r u → x = iz r → y = (az u.1, az u.2) → post0 x y) :
    ∀ (n : Nat) (v5' : Int32) (v5 : Int) (e_v5 : v5' = iz v5), iv_X0_reachByTakingBack_L37 K post b1 b3 b4 f_length f_entering f_latest f_step n v5 → vc_X0_reachByTakingBack_L37 K0 post0 b1' b3' b4' f_length' f_entering' f_latest' f_step' n v5' := by
  subst e_b1
  subst e_b3
  subst e_b4
  subst e_f_length
  subst e_f_entering
  subst e_f_latest
  subst e_f_step
  intro n
  induction n with
  | zero =>
    intro v5' v5 e_v5 hv
    exact False.elim hv
  | succ n ih =>
    intro v5' v5 e_v5 hv
    subst e_v5
    rw [iv_X0_reachByTakingBack_L37] at hv
    rw [vc_X0_reachByTakingBack_L37]
    obtain ⟨hs_17, hv⟩ := hv
    have q_18 := z_lt (x := (iz v5)) (a := v5) (by first | with_reducible rfl | simp only [zl, iz_add, iz_sub, iz_mul, iz_neg]) (y := 0) (b := 0) (by first | with_reducible rfl | simp only [zl, iz_add, iz_sub, iz_mul, iz_neg]) hs_17.1 hs_17.2
    refine ⟨fun c9 => ?_, fun c9 => ?_⟩
    · have hv := hv.1 (q_18.mp c9)
      exact hKx   hv 
    · have hv := hv.2 (fun z9 => c9 (q_18.mpr z9))
      obtain ⟨hi_19, hv⟩ := hv
      refine ⟨z_in (by first | with_reducible rfl | simp only [zl, iz_add, iz_sub, iz_mul, iz_neg]) hi_19 (by decide), ?_⟩
      have e_20 : ((az f_length) ((iz b1)).toNatClampNeg) = iz (f_length b1.toNat) := z_at (by first | with_reducible rfl | simp only [zl, iz_add, iz_sub, iz_mul, iz_neg]) (by first | with_reducible rfl | simp only [zl, iz_add, iz_sub, iz_mul, iz_neg]) hi_19 (by decide)
      try rw [e_20]
      obtain ⟨hi_21, hv⟩ := hv
      refine ⟨z_in (by first | with_reducible rfl | simp only [zl, iz_add, iz_sub, iz_mul, iz_neg]) hi_21 (by decide), ?_⟩
      have e_22 : ((az f_latest) ((iz b4)).toNatClampNeg) = iz (f_latest b4.toNat) := z_at (by first | with_reducible rfl | simp only [zl, iz_add, iz_sub, iz_mul, iz_neg]) (by first | with_reducible rfl | simp only [zl, iz_add, iz_sub, iz_mul, iz_neg]) hi_21 (by decide)
      try rw [e_22]
      obtain ⟨hs_23, hv⟩ := hv
      have q_24 := z_le (x := ((iz v5) + (iz (f_length b1.toNat)))) (a := (v5 + (f_length b1.toNat))) (by first | with_reducible rfl | simp only [zl, iz_add, iz_sub, iz_mul, iz_neg]) (y := (iz (f_latest b4.toNat))) (b := (f_latest b4.toNat)) (by first | with_reducible rfl | simp only [zl, iz_add, iz_sub, iz_mul, iz_neg]) hs_23.1 hs_23.2
      refine ⟨fun c9 => ?_, fun c9 => ?_⟩
      · have hv := hv.1 (q_24.mp c9)
        exact hKx   hv 
      · have hv := hv.2 (fun z9 => c9 (q_24.mpr z9))
        obtain ⟨hi_25, hv⟩ := hv
        refine ⟨z_in (by first | with_reducible rfl | simp only [zl, iz_add, iz_sub, iz_mul, iz_neg]) hi_25 (by decide), ?_⟩
        have e_26 : ((az f_entering) (((iz b3) + (iz v5))).toNatClampNeg) = iz (f_entering ((b3 + v5)).toNat) := z_at (by first | with_reducible rfl | simp only [zl, iz_add, iz_sub, iz_mul, iz_neg]) (by first | with_reducible rfl | simp only [zl, iz_add, iz_sub, iz_mul, iz_neg]) hi_25 (by decide)
        try rw [e_26]
        obtain ⟨hs_27, hv⟩ := hv
        have q_28 := z_le (x := (iz (f_entering ((b3 + v5)).toNat))) (a := (f_entering ((b3 + v5)).toNat)) (by first | with_reducible rfl | simp only [zl, iz_add, iz_sub, iz_mul, iz_neg]) (y := 0) (b := 0) (by first | with_reducible rfl | simp only [zl, iz_add, iz_sub, iz_mul, iz_neg]) hs_27.1 hs_27.2
        refine ⟨fun c9 => ?_, fun c9 => ?_⟩
        · have hv := hv.1 (q_28.mp c9)
          intro y_30 hy_30
          obtain ⟨x5_29, hx5_29⟩ : ∃ z : Int, z = v5 + (-1) := ⟨_, rfl⟩
          have hv := hv x5_29 hx5_29
          have ey_30 : y_30 = iz x5_29 := by rw [hy_30, hx5_29]; try exact (by first | with_reducible rfl | simp only [zl, iz_add, iz_sub, iz_mul, iz_neg])
          subst ey_30
          exact ih _ x5_29 (by first | with_reducible rfl | simp only [zl, iz_add, iz_sub, iz_mul, iz_neg]) hv
        · have hv := hv.2 (fun z9 => c9 (q_28.mpr z9))
          obtain ⟨hi_31, hv⟩ := hv
          refine ⟨z_in (by first | with_reducible rfl | simp only [zl, iz_add, iz_sub, iz_mul, iz_neg]) hi_31 (by decide), ?_⟩
          have e_32 : ((az f_length) ((iz b1)).toNatClampNeg) = iz (f_length b1.toNat) := z_at (by first | with_reducible rfl | simp only [zl, iz_add, iz_sub, iz_mul, iz_neg]) (by first | with_reducible rfl | simp only [zl, iz_add, iz_sub, iz_mul, iz_neg]) hi_31 (by decide)
          try rw [e_32]
          refine lift_X0_reach (by first | with_reducible rfl | simp only [zl, iz_add, iz_sub, iz_mul, iz_neg]) (by first | with_reducible rfl | simp only [zl, iz_add, iz_sub, iz_mul, iz_neg]) (by first | with_reducible rfl | simp only [zl, iz_add, iz_sub, iz_mul, iz_neg]) (by first | with_reducible rfl | simp only [zl, iz_add, iz_sub, iz_mul, iz_neg]) (by first | with_reducible rfl | simp only [zl, iz_add, iz_sub, iz_mul, iz_neg]) hv (fun u_33 y_35 hv eu_37 => ?_)
          subst eu_37
          try dsimp only
          exact hp _ _ _ _ hv (by first | with_reducible rfl | simp only [zl, iz_add, iz_sub, iz_mul, iz_neg]) (by first | with_reducible rfl | simp only [zl, iz_add, iz_sub, iz_mul, iz_neg])

def iv_X0_reachByTakingBack (a1 : Int) (a2 : Int) (f_from : (Nat → Int)) (f_to : (Nat → Int)) (f_length : (Nat → Int)) (f_entering : (Nat → Int)) (f_latest : (Nat → Int)) (f_step : (Nat → Int)) (post : Int → ((Nat → Int) × (Nat → Int)) → Prop) : Prop :=
  (∀ x3_1 : Int, x3_1 = (a1 * 61) → ((0 ≤ a1 ∧ a1 < 16) ∧ (∀ x4_5 : Int, x4_5 = (f_to a1.toNat) → ((0 ≤ a1 ∧ a1 < 16) ∧ ((0 ≤ (f_from a1.toNat) ∧ (f_from a1.toNat) < 6) ∧ ((0 ≤ a1 ∧ a1 < 16) ∧ ((sm (a2 - (f_length a1.toNat)) ∧ sm (f_latest ((f_from a1.toNat)).toNat)) ∧ (∀ x5_15 : Int, x5_15 = (if (a2 - (f_length a1.toNat)) < (f_latest ((f_from a1.toNat)).toNat) then (a2 - (f_length a1.toNat)) else (f_latest ((f_from a1.toNat)).toNat)) → (∃ n_38, iv_X0_reachByTakingBack_L37 (post 0 (f_latest, f_step)) post a1 x3_1 x4_5 f_length f_entering f_latest f_step n_38 x5_15)))))))))

set_option maxHeartbeats 4000000 in
theorem lift_X0_reachByTakingBack {a1' : Int32} {a1 : Int} {a2' : Int32} {a2 : Int} {f_from' : (Nat → Int32)} {f_from : (Nat → Int)} {f_to' : (Nat → Int32)} {f_to : (Nat → Int)} {f_length' : (Nat → Int32)} {f_length : (Nat → Int)} {f_entering' : (Nat → Int32)} {f_entering : (Nat → Int)} {f_latest' : (Nat → Int32)} {f_latest : (Nat → Int)} {f_step' : (Nat → Int32)} {f_step : (Nat → Int)} (e_a1 : a1' = iz a1) (e_a2 : a2' = iz a2) (e_f_from : f_from' = az f_from) (e_f_to : f_to' = az f_to) (e_f_length : f_length' = az f_length) (e_f_entering : f_entering' = az f_entering) (e_f_latest : f_latest' = az f_latest) (e_f_step : f_step' = az f_step) {post0 : Int32 → ((Nat → Int32) × (Nat → Int32)) → Prop} {post : Int → ((Nat → Int) × (Nat → Int)) → Prop} (hv : iv_X0_reachByTakingBack a1 a2 f_from f_to f_length f_entering f_latest f_step post) (hp : ∀ (r : Int) (u : (Nat → Int) × (Nat → Int)) (x : Int32) (y : (Nat → Int32) × (Nat → Int32)), post r u → x = iz r → y = (az u.1, az u.2) → post0 x y) : vc_X0_reachByTakingBack a1' a2' f_from' f_to' f_length' f_entering' f_latest' f_step' post0 := by
  subst e_a1
  subst e_a2
  subst e_f_from
  subst e_f_to
  subst e_f_length
  subst e_f_entering
  subst e_f_latest
  subst e_f_step
  rw [iv_X0_reachByTakingBack] at hv
  rw [vc_X0_reachByTakingBack]
  intro y_2 hy_2
  obtain ⟨x3_1, hx3_1⟩ : ∃ z : Int, z = (a1 * 61) := ⟨_, rfl⟩
  have hv := hv x3_1 hx3_1
  have ey_2 : y_2 = iz x3_1 := by rw [hy_2, hx3_1]; try exact (by first | with_reducible rfl | simp only [zl, iz_add, iz_sub, iz_mul, iz_neg])
  subst ey_2
  obtain ⟨hi_3, hv⟩ := hv
  refine ⟨z_in (by first | with_reducible rfl | simp only [zl, iz_add, iz_sub, iz_mul, iz_neg]) hi_3 (by decide), ?_⟩
  have e_4 : ((az f_to) ((iz a1)).toNatClampNeg) = iz (f_to a1.toNat) := z_at (by first | with_reducible rfl | simp only [zl, iz_add, iz_sub, iz_mul, iz_neg]) (by first | with_reducible rfl | simp only [zl, iz_add, iz_sub, iz_mul, iz_neg]) hi_3 (by decide)
  try rw [e_4]
  intro y_6 hy_6
  obtain ⟨x4_5, hx4_5⟩ : ∃ z : Int, z = (f_to a1.toNat) := ⟨_, rfl⟩
  have hv := hv x4_5 hx4_5
  have ey_6 : y_6 = iz x4_5 := by rw [hy_6, hx4_5]; try exact (by first | with_reducible rfl | simp only [zl, iz_add, iz_sub, iz_mul, iz_neg])
  subst ey_6
  obtain ⟨hi_7, hv⟩ := hv
  refine ⟨z_in (by first | with_reducible rfl | simp only [zl, iz_add, iz_sub, iz_mul, iz_neg]) hi_7 (by decide), ?_⟩
  have e_8 : ((az f_from) ((iz a1)).toNatClampNeg) = iz (f_from a1.toNat) := z_at (by first | with_reducible rfl | simp only [zl, iz_add, iz_sub, iz_mul, iz_neg]) (by first | with_reducible rfl | simp only [zl, iz_add, iz_sub, iz_mul, iz_neg]) hi_7 (by decide)
  try rw [e_8]
  obtain ⟨hi_9, hv⟩ := hv
  refine ⟨z_in (by first | with_reducible rfl | simp only [zl, iz_add, iz_sub, iz_mul, iz_neg]) hi_9 (by decide), ?_⟩
  have e_10 : ((az f_latest) ((iz (f_from a1.toNat))).toNatClampNeg) = iz (f_latest ((f_from a1.toNat)).toNat) := z_at (by first | with_reducible rfl | simp only [zl, iz_add, iz_sub, iz_mul, iz_neg]) (by first | with_reducible rfl | simp only [zl, iz_add, iz_sub, iz_mul, iz_neg]) hi_9 (by decide)
  try rw [e_10]
  obtain ⟨hi_11, hv⟩ := hv
  refine ⟨z_in (by first | with_reducible rfl | simp only [zl, iz_add, iz_sub, iz_mul, iz_neg]) hi_11 (by decide), ?_⟩
  have e_12 : ((az f_length) ((iz a1)).toNatClampNeg) = iz (f_length a1.toNat) := z_at (by first | with_reducible rfl | simp only [zl, iz_add, iz_sub, iz_mul, iz_neg]) (by first | with_reducible rfl | simp only [zl, iz_add, iz_sub, iz_mul, iz_neg]) hi_11 (by decide)
  try rw [e_12]
  obtain ⟨hc_13, hv⟩ := hv
  have e_14 : (if ((iz a2) - (iz (f_length a1.toNat))) < (iz (f_latest ((f_from a1.toNat)).toNat)) then ((iz a2) - (iz (f_length a1.toNat))) else (iz (f_latest ((f_from a1.toNat)).toNat))) = iz (if (a2 - (f_length a1.toNat)) < (f_latest ((f_from a1.toNat)).toNat) then (a2 - (f_length a1.toNat)) else (f_latest ((f_from a1.toNat)).toNat)) := z_min (by first | with_reducible rfl | simp only [zl, iz_add, iz_sub, iz_mul, iz_neg]) (by first | with_reducible rfl | simp only [zl, iz_add, iz_sub, iz_mul, iz_neg]) hc_13.1 hc_13.2
  try rw [e_14]
  intro y_16 hy_16
  obtain ⟨x5_15, hx5_15⟩ : ∃ z : Int, z = (if (a2 - (f_length a1.toNat)) < (f_latest ((f_from a1.toNat)).toNat) then (a2 - (f_length a1.toNat)) else (f_latest ((f_from a1.toNat)).toNat)) := ⟨_, rfl⟩
  have hv := hv x5_15 hx5_15
  have ey_16 : y_16 = iz x5_15 := by rw [hy_16, hx5_15]; try exact (by first | with_reducible rfl | simp only [zl, iz_add, iz_sub, iz_mul, iz_neg])
  subst ey_16
  obtain ⟨n_38, hv⟩ := hv
  refine ⟨n_38, lift_X0_reachByTakingBack_L37 (by first | with_reducible rfl | simp only [zl, iz_add, iz_sub, iz_mul, iz_neg]) (by first | with_reducible rfl | simp only [zl, iz_add, iz_sub, iz_mul, iz_neg]) (by first | with_reducible rfl | simp only [zl, iz_add, iz_sub, iz_mul, iz_neg]) (by first | with_reducible rfl | simp only [zl, iz_add, iz_sub, iz_mul, iz_neg]) (by first | with_reducible rfl | simp only [zl, iz_add, iz_sub, iz_mul, iz_neg]) (by first | with_reducible rfl | simp only [zl, iz_add, iz_sub, iz_mul, iz_neg]) (by first | with_reducible rfl | simp only [zl, iz_add, iz_sub, iz_mul, iz_neg]) (fun   hv  => ?_) hp n_38 _ x5_15 (by first | with_reducible rfl | simp only [zl, iz_add, iz_sub, iz_mul, iz_neg]) hv⟩
  exact hp _ _ _ _ hv (by first | with_reducible rfl | simp only [zl, iz_add, iz_sub, iz_mul, iz_neg]) (by first | with_reducible rfl | simp only [zl, iz_add, iz_sub, iz_mul, iz_neg])

def iv_X0_reachByNotWaiting_L20 (K : Int → (Nat → Int) → Prop) (b1 : Int) (b2 : Int) (b3 : Int) (f_entering : (Nat → Int)) : Nat → Int → (Nat → Int) → Prop
  | 0, _, _ => False
  | n + 1, v4, f_step =>
    ((sm b2 ∧ sm v4) ∧ ((b2 ≤ v4 → K v4 f_step) ∧ (¬ b2 ≤ v4 → ((0 ≤ (b3 + v4) ∧ (b3 + v4) < 976) ∧ ((sm (f_entering ((b3 + v4)).toNat) ∧ sm 0) ∧ (((f_entering ((b3 + v4)).toNat) ≤ 0 → K v4 f_step) ∧ (¬ (f_entering ((b3 + v4)).toNat) ≤ 0 → (∀ x4_15 : Int, x4_15 = v4 + 1 → ((0 ≤ (b3 + x4_15) ∧ (b3 + x4_15) < 366) ∧ iv_X0_reachByNotWaiting_L20 K b1 b2 b3 f_entering n x4_15 (uz f_step ((b3 + x4_15)).toNat (-(b1 + 1))))))))))))

set_option maxHeartbeats 4000000 in
theorem lift_X0_reachByNotWaiting_L20 {K0 : Int32 → (Nat → Int32) → Prop} {K : Int → (Nat → Int) → Prop} {b1' : Int32} {b1 : Int} {b2' : Int32} {b2 : Int} {b3' : Int32} {b3 : Int} {f_entering' : (Nat → Int32)} {f_entering : (Nat → Int)} (e_b1 : b1' = iz b1) (e_b2 : b2' = iz b2) (e_b3 : b3' = iz b3) (e_f_entering : f_entering' = az f_entering)  (hKx : ∀ (k4' : Int32) (k_f_step' : (Nat → Int32)) (k4 : Int) (k_f_step : (Nat → Int)), K k4 k_f_step → k4' = iz k4 → k_f_step' = az k_f_step →  K0 k4' k_f_step') :
    ∀ (n : Nat) (v4' : Int32) (f_step' : (Nat → Int32)) (v4 : Int) (f_step : (Nat → Int)) (e_v4 : v4' = iz v4) (e_f_step : f_step' = az f_step), iv_X0_reachByNotWaiting_L20 K b1 b2 b3 f_entering n v4 f_step → vc_X0_reachByNotWaiting_L20 K0 b1' b2' b3' f_entering' n v4' f_step' := by
  subst e_b1
  subst e_b2
  subst e_b3
  subst e_f_entering
  intro n
  induction n with
  | zero =>
    intro v4' f_step' v4 f_step e_v4 e_f_step hv
    exact False.elim hv
  | succ n ih =>
    intro v4' f_step' v4 f_step e_v4 e_f_step hv
    subst e_v4
    subst e_f_step
    rw [iv_X0_reachByNotWaiting_L20] at hv
    rw [vc_X0_reachByNotWaiting_L20]
    obtain ⟨hs_9, hv⟩ := hv
    have q_10 := z_le (x := (iz b2)) (a := b2) (by first | with_reducible rfl | simp only [zl, iz_add, iz_sub, iz_mul, iz_neg]) (y := (iz v4)) (b := v4) (by first | with_reducible rfl | simp only [zl, iz_add, iz_sub, iz_mul, iz_neg]) hs_9.1 hs_9.2
    refine ⟨fun c9 => ?_, fun c9 => ?_⟩
    · have hv := hv.1 (q_10.mp c9)
      exact hKx _ _ v4 f_step hv (by first | with_reducible rfl | simp only [zl, iz_add, iz_sub, iz_mul, iz_neg]) (by first | with_reducible rfl | simp only [zl, iz_add, iz_sub, iz_mul, iz_neg])
    · have hv := hv.2 (fun z9 => c9 (q_10.mpr z9))
      obtain ⟨hi_11, hv⟩ := hv
      refine ⟨z_in (by first | with_reducible rfl | simp only [zl, iz_add, iz_sub, iz_mul, iz_neg]) hi_11 (by decide), ?_⟩
      have e_12 : ((az f_entering) (((iz b3) + (iz v4))).toNatClampNeg) = iz (f_entering ((b3 + v4)).toNat) := z_at (by first | with_reducible rfl | simp only [zl, iz_add, iz_sub, iz_mul, iz_neg]) (by first | with_reducible rfl | simp only [zl, iz_add, iz_sub, iz_mul, iz_neg]) hi_11 (by decide)
      try rw [e_12]
      obtain ⟨hs_13, hv⟩ := hv
      have q_14 := z_le (x := (iz (f_entering ((b3 + v4)).toNat))) (a := (f_entering ((b3 + v4)).toNat)) (by first | with_reducible rfl | simp only [zl, iz_add, iz_sub, iz_mul, iz_neg]) (y := 0) (b := 0) (by first | with_reducible rfl | simp only [zl, iz_add, iz_sub, iz_mul, iz_neg]) hs_13.1 hs_13.2
      refine ⟨fun c9 => ?_, fun c9 => ?_⟩
      · have hv := hv.1 (q_14.mp c9)
        exact hKx _ _ v4 f_step hv (by first | with_reducible rfl | simp only [zl, iz_add, iz_sub, iz_mul, iz_neg]) (by first | with_reducible rfl | simp only [zl, iz_add, iz_sub, iz_mul, iz_neg])
      · have hv := hv.2 (fun z9 => c9 (q_14.mpr z9))
        intro y_16 hy_16
        obtain ⟨x4_15, hx4_15⟩ : ∃ z : Int, z = v4 + 1 := ⟨_, rfl⟩
        have hv := hv x4_15 hx4_15
        have ey_16 : y_16 = iz x4_15 := by rw [hy_16, hx4_15]; try exact (by first | with_reducible rfl | simp only [zl, iz_add, iz_sub, iz_mul, iz_neg])
        subst ey_16
        obtain ⟨hi_17, hv⟩ := hv
        refine ⟨z_in (by first | with_reducible rfl | simp only [zl, iz_add, iz_sub, iz_mul, iz_neg]) hi_17 (by decide), ?_⟩
        have e_18 : (upd (az f_step) (((iz b3) + (iz x4_15))).toNatClampNeg (-((iz b1) + 1))) = az (uz f_step ((b3 + x4_15)).toNat (-(b1 + 1))) := z_upd (by first | with_reducible rfl | simp only [zl, iz_add, iz_sub, iz_mul, iz_neg]) (by first | with_reducible rfl | simp only [zl, iz_add, iz_sub, iz_mul, iz_neg]) (by first | with_reducible rfl | simp only [zl, iz_add, iz_sub, iz_mul, iz_neg]) hi_17 (by decide)
        try rw [e_18]
        exact ih _ _ x4_15 (uz f_step ((b3 + x4_15)).toNat (-(b1 + 1))) (by first | with_reducible rfl | simp only [zl, iz_add, iz_sub, iz_mul, iz_neg]) (by first | with_reducible rfl | simp only [zl, iz_add, iz_sub, iz_mul, iz_neg]) hv

def iv_X0_reachByNotWaiting (a1 : Int) (a2 : Int) (f_entering : (Nat → Int)) (f_latest : (Nat → Int)) (f_step : (Nat → Int)) (post : Int → ((Nat → Int) × (Nat → Int)) → Prop) : Prop :=
  (∀ x3_1 : Int, x3_1 = (a1 * 61) → ((0 ≤ a1 ∧ a1 < 6) ∧ (∀ x4_5 : Int, x4_5 = (f_latest a1.toNat) → ((sm 0 ∧ sm x4_5) ∧ ((0 ≤ x4_5 → (∃ n_29, iv_X0_reachByNotWaiting_L20 (fun k4_19 f_step_20 => ((0 ≤ a1 ∧ a1 < 6) ∧ ((sm k4_19 ∧ sm (f_latest a1.toNat)) ∧ ((k4_19 ≤ (f_latest a1.toNat) → ((0 ≤ a1 ∧ a1 < 6) ∧ post 0 ((uz f_latest a1.toNat k4_19), f_step_20))) ∧ (¬ k4_19 ≤ (f_latest a1.toNat) → ((0 ≤ a1 ∧ a1 < 6) ∧ post 1 ((uz f_latest a1.toNat k4_19), f_step_20)))))))  a1 a2 x3_1 f_entering n_29 x4_5 f_step)) ∧ (¬ 0 ≤ x4_5 → post 0 (f_latest, f_step)))))))

set_option maxHeartbeats 4000000 in
theorem lift_X0_reachByNotWaiting {a1' : Int32} {a1 : Int} {a2' : Int32} {a2 : Int} {f_entering' : (Nat → Int32)} {f_entering : (Nat → Int)} {f_latest' : (Nat → Int32)} {f_latest : (Nat → Int)} {f_step' : (Nat → Int32)} {f_step : (Nat → Int)} (e_a1 : a1' = iz a1) (e_a2 : a2' = iz a2) (e_f_entering : f_entering' = az f_entering) (e_f_latest : f_latest' = az f_latest) (e_f_step : f_step' = az f_step) {post0 : Int32 → ((Nat → Int32) × (Nat → Int32)) → Prop} {post : Int → ((Nat → Int) × (Nat → Int)) → Prop} (hv : iv_X0_reachByNotWaiting a1 a2 f_entering f_latest f_step post) (hp : ∀ (r : Int) (u : (Nat → Int) × (Nat → Int)) (x : Int32) (y : (Nat → Int32) × (Nat → Int32)), post r u → x = iz r → y = (az u.1, az u.2) → post0 x y) : vc_X0_reachByNotWaiting a1' a2' f_entering' f_latest' f_step' post0 := by
  subst e_a1
  subst e_a2
  subst e_f_entering
  subst e_f_latest
  subst e_f_step
  rw [iv_X0_reachByNotWaiting] at hv
  rw [vc_X0_reachByNotWaiting]
  intro y_2 hy_2
  obtain ⟨x3_1, hx3_1⟩ : ∃ z : Int, z = (a1 * 61) := ⟨_, rfl⟩
  have hv := hv x3_1 hx3_1
  have ey_2 : y_2 = iz x3_1 := by rw [hy_2, hx3_1]; try exact (by first | with_reducible rfl | simp only [zl, iz_add, iz_sub, iz_mul, iz_neg])
  subst ey_2
  obtain ⟨hi_3, hv⟩ := hv
  refine ⟨z_in (by first | with_reducible rfl | simp only [zl, iz_add, iz_sub, iz_mul, iz_neg]) hi_3 (by decide), ?_⟩
  have e_4 : ((az f_latest) ((iz a1)).toNatClampNeg) = iz (f_latest a1.toNat) := z_at (by first | with_reducible rfl | simp only [zl, iz_add, iz_sub, iz_mul, iz_neg]) (by first | with_reducible rfl | simp only [zl, iz_add, iz_sub, iz_mul, iz_neg]) hi_3 (by decide)
  try rw [e_4]
  intro y_6 hy_6
  obtain ⟨x4_5, hx4_5⟩ : ∃ z : Int, z = (f_latest a1.toNat) := ⟨_, rfl⟩
  have hv := hv x4_5 hx4_5
  have ey_6 : y_6 = iz x4_5 := by rw [hy_6, hx4_5]; try exact (by first | with_reducible rfl | simp only [zl, iz_add, iz_sub, iz_mul, iz_neg])
  subst ey_6
  obtain ⟨hs_7, hv⟩ := hv
  have q_8 := z_le (x := 0) (a := 0) (by first | with_reducible rfl | simp only [zl, iz_add, iz_sub, iz_mul, iz_neg]) (y := (iz x4_5)) (b := x4_5) (by first | with_reducible rfl | simp only [zl, iz_add, iz_sub, iz_mul, iz_neg]) hs_7.1 hs_7.2
  refine ⟨fun c9 => ?_, fun c9 => ?_⟩
  · have hv := hv.1 (q_8.mp c9)
    obtain ⟨n_29, hv⟩ := hv
    refine ⟨n_29, lift_X0_reachByNotWaiting_L20 (by first | with_reducible rfl | simp only [zl, iz_add, iz_sub, iz_mul, iz_neg]) (by first | with_reducible rfl | simp only [zl, iz_add, iz_sub, iz_mul, iz_neg]) (by first | with_reducible rfl | simp only [zl, iz_add, iz_sub, iz_mul, iz_neg]) (by first | with_reducible rfl | simp only [zl, iz_add, iz_sub, iz_mul, iz_neg]) (fun y_30 y_31 k4_19 f_step_20 hv ey_32 ey_33 => ?_)  n_29 _ _ x4_5 f_step (by first | with_reducible rfl | simp only [zl, iz_add, iz_sub, iz_mul, iz_neg]) (by first | with_reducible rfl | simp only [zl, iz_add, iz_sub, iz_mul, iz_neg]) hv⟩
    subst ey_32
    subst ey_33
    obtain ⟨hi_21, hv⟩ := hv
    refine ⟨z_in (by first | with_reducible rfl | simp only [zl, iz_add, iz_sub, iz_mul, iz_neg]) hi_21 (by decide), ?_⟩
    have e_22 : ((az f_latest) ((iz a1)).toNatClampNeg) = iz (f_latest a1.toNat) := z_at (by first | with_reducible rfl | simp only [zl, iz_add, iz_sub, iz_mul, iz_neg]) (by first | with_reducible rfl | simp only [zl, iz_add, iz_sub, iz_mul, iz_neg]) hi_21 (by decide)
    try rw [e_22]
    obtain ⟨hs_23, hv⟩ := hv
    have q_24 := z_le (x := (iz k4_19)) (a := k4_19) (by first | with_reducible rfl | simp only [zl, iz_add, iz_sub, iz_mul, iz_neg]) (y := (iz (f_latest a1.toNat))) (b := (f_latest a1.toNat)) (by first | with_reducible rfl | simp only [zl, iz_add, iz_sub, iz_mul, iz_neg]) hs_23.1 hs_23.2
    refine ⟨fun c9 => ?_, fun c9 => ?_⟩
    · have hv := hv.1 (q_24.mp c9)
      obtain ⟨hi_25, hv⟩ := hv
      refine ⟨z_in (by first | with_reducible rfl | simp only [zl, iz_add, iz_sub, iz_mul, iz_neg]) hi_25 (by decide), ?_⟩
      have e_26 : (upd (az f_latest) ((iz a1)).toNatClampNeg (iz k4_19)) = az (uz f_latest a1.toNat k4_19) := z_upd (by first | with_reducible rfl | simp only [zl, iz_add, iz_sub, iz_mul, iz_neg]) (by first | with_reducible rfl | simp only [zl, iz_add, iz_sub, iz_mul, iz_neg]) (by first | with_reducible rfl | simp only [zl, iz_add, iz_sub, iz_mul, iz_neg]) hi_25 (by decide)
      try rw [e_26]
      exact hp _ _ _ _ hv (by first | with_reducible rfl | simp only [zl, iz_add, iz_sub, iz_mul, iz_neg]) (by first | with_reducible rfl | simp only [zl, iz_add, iz_sub, iz_mul, iz_neg])
    · have hv := hv.2 (fun z9 => c9 (q_24.mpr z9))
      obtain ⟨hi_27, hv⟩ := hv
      refine ⟨z_in (by first | with_reducible rfl | simp only [zl, iz_add, iz_sub, iz_mul, iz_neg]) hi_27 (by decide), ?_⟩
      have e_28 : (upd (az f_latest) ((iz a1)).toNatClampNeg (iz k4_19)) = az (uz f_latest a1.toNat k4_19) := z_upd (by first | with_reducible rfl | simp only [zl, iz_add, iz_sub, iz_mul, iz_neg]) (by first | with_reducible rfl | simp only [zl, iz_add, iz_sub, iz_mul, iz_neg]) (by first | with_reducible rfl | simp only [zl, iz_add, iz_sub, iz_mul, iz_neg]) hi_27 (by decide)
      try rw [e_28]
      exact hp _ _ _ _ hv (by first | with_reducible rfl | simp only [zl, iz_add, iz_sub, iz_mul, iz_neg]) (by first | with_reducible rfl | simp only [zl, iz_add, iz_sub, iz_mul, iz_neg])
  · have hv := hv.2 (fun z9 => c9 (q_8.mpr z9))
    exact hp _ _ _ _ hv (by first | with_reducible rfl | simp only [zl, iz_add, iz_sub, iz_mul, iz_neg]) (by first | with_reducible rfl | simp only [zl, iz_add, iz_sub, iz_mul, iz_neg])

def iv_X0_findWayOut_L2 (K : (Nat → Int) → Prop) (b1 : Int) (f_safeRooms : Int) : Nat → Int → (Nat → Int) → Prop
  | 0, _, _ => False
  | n + 1, v2, f_latest =>
    ((sm 6 ∧ sm v2) ∧ ((6 ≤ v2 → K f_latest) ∧ (¬ 6 ≤ v2 → (iv_X4_isIn f_safeRooms v2 (fun (r_4 : Int) (u_3 : Unit) => ((sm r_4 ∧ sm 0) ∧ ((r_4 = 0 → ((0 ≤ v2 ∧ v2 < 6) ∧ (∀ x2_13 : Int, x2_13 = v2 + 1 → iv_X0_findWayOut_L2 K b1 f_safeRooms n x2_13 (uz f_latest v2.toNat (-1))))) ∧ (¬ r_4 = 0 → ((0 ≤ v2 ∧ v2 < 6) ∧ (∀ x2_17 : Int, x2_17 = v2 + 1 → iv_X0_findWayOut_L2 K b1 f_safeRooms n x2_17 (uz f_latest v2.toNat b1)))))))))))

set_option maxHeartbeats 4000000 in
theorem lift_X0_findWayOut_L2 {K0 : (Nat → Int32) → Prop} {K : (Nat → Int) → Prop} {b1' : Int32} {b1 : Int} {f_safeRooms' : Int32} {f_safeRooms : Int} (e_b1 : b1' = iz b1) (e_f_safeRooms : f_safeRooms' = iz f_safeRooms)  (hKx : ∀ (k_f_latest' : (Nat → Int32)) (k_f_latest : (Nat → Int)), K k_f_latest → k_f_latest' = az k_f_latest →  K0 k_f_latest') :
    ∀ (n : Nat) (v2' : Int32) (f_latest' : (Nat → Int32)) (v2 : Int) (f_latest : (Nat → Int)) (e_v2 : v2' = iz v2) (e_f_latest : f_latest' = az f_latest), iv_X0_findWayOut_L2 K b1 f_safeRooms n v2 f_latest → vc_X0_findWayOut_L2 K0 b1' f_safeRooms' n v2' f_latest' := by
  subst e_b1
  subst e_f_safeRooms
  intro n
  induction n with
  | zero =>
    intro v2' f_latest' v2 f_latest e_v2 e_f_latest hv
    exact False.elim hv
  | succ n ih =>
    intro v2' f_latest' v2 f_latest e_v2 e_f_latest hv
    subst e_v2
    subst e_f_latest
    rw [iv_X0_findWayOut_L2] at hv
    rw [vc_X0_findWayOut_L2]
    obtain ⟨hs_1, hv⟩ := hv
    have q_2 := z_le (x := 6) (a := 6) (by first | with_reducible rfl | simp only [zl, iz_add, iz_sub, iz_mul, iz_neg]) (y := (iz v2)) (b := v2) (by first | with_reducible rfl | simp only [zl, iz_add, iz_sub, iz_mul, iz_neg]) hs_1.1 hs_1.2
    refine ⟨fun c9 => ?_, fun c9 => ?_⟩
    · have hv := hv.1 (q_2.mp c9)
      exact hKx _ f_latest hv (by first | with_reducible rfl | simp only [zl, iz_add, iz_sub, iz_mul, iz_neg])
    · have hv := hv.2 (fun z9 => c9 (q_2.mpr z9))
      refine lift_X4_isIn (by first | with_reducible rfl | simp only [zl, iz_add, iz_sub, iz_mul, iz_neg]) (by first | with_reducible rfl | simp only [zl, iz_add, iz_sub, iz_mul, iz_neg]) hv (fun r_4 u_3 y_5 y_6 hv er_7 eu_8 => ?_)
      subst er_7; subst eu_8
      try dsimp only
      obtain ⟨hs_9, hv⟩ := hv
      have q_10 := z_eq (x := (iz r_4)) (a := r_4) (by first | with_reducible rfl | simp only [zl, iz_add, iz_sub, iz_mul, iz_neg]) (y := 0) (b := 0) (by first | with_reducible rfl | simp only [zl, iz_add, iz_sub, iz_mul, iz_neg]) hs_9.1 hs_9.2
      refine ⟨fun c9 => ?_, fun c9 => ?_⟩
      · have hv := hv.1 (q_10.mp c9)
        obtain ⟨hi_11, hv⟩ := hv
        refine ⟨z_in (by first | with_reducible rfl | simp only [zl, iz_add, iz_sub, iz_mul, iz_neg]) hi_11 (by decide), ?_⟩
        have e_12 : (upd (az f_latest) ((iz v2)).toNatClampNeg (-1)) = az (uz f_latest v2.toNat (-1)) := z_upd (by first | with_reducible rfl | simp only [zl, iz_add, iz_sub, iz_mul, iz_neg]) (by first | with_reducible rfl | simp only [zl, iz_add, iz_sub, iz_mul, iz_neg]) (by first | with_reducible rfl | simp only [zl, iz_add, iz_sub, iz_mul, iz_neg]) hi_11 (by decide)
        try rw [e_12]
        intro y_14 hy_14
        obtain ⟨x2_13, hx2_13⟩ : ∃ z : Int, z = v2 + 1 := ⟨_, rfl⟩
        have hv := hv x2_13 hx2_13
        have ey_14 : y_14 = iz x2_13 := by rw [hy_14, hx2_13]; try exact (by first | with_reducible rfl | simp only [zl, iz_add, iz_sub, iz_mul, iz_neg])
        subst ey_14
        exact ih _ _ x2_13 (uz f_latest v2.toNat (-1)) (by first | with_reducible rfl | simp only [zl, iz_add, iz_sub, iz_mul, iz_neg]) (by first | with_reducible rfl | simp only [zl, iz_add, iz_sub, iz_mul, iz_neg]) hv
      · have hv := hv.2 (fun z9 => c9 (q_10.mpr z9))
        obtain ⟨hi_15, hv⟩ := hv
        refine ⟨z_in (by first | with_reducible rfl | simp only [zl, iz_add, iz_sub, iz_mul, iz_neg]) hi_15 (by decide), ?_⟩
        have e_16 : (upd (az f_latest) ((iz v2)).toNatClampNeg (iz b1)) = az (uz f_latest v2.toNat b1) := z_upd (by first | with_reducible rfl | simp only [zl, iz_add, iz_sub, iz_mul, iz_neg]) (by first | with_reducible rfl | simp only [zl, iz_add, iz_sub, iz_mul, iz_neg]) (by first | with_reducible rfl | simp only [zl, iz_add, iz_sub, iz_mul, iz_neg]) hi_15 (by decide)
        try rw [e_16]
        intro y_18 hy_18
        obtain ⟨x2_17, hx2_17⟩ : ∃ z : Int, z = v2 + 1 := ⟨_, rfl⟩
        have hv := hv x2_17 hx2_17
        have ey_18 : y_18 = iz x2_17 := by rw [hy_18, hx2_17]; try exact (by first | with_reducible rfl | simp only [zl, iz_add, iz_sub, iz_mul, iz_neg])
        subst ey_18
        exact ih _ _ x2_17 (uz f_latest v2.toNat b1) (by first | with_reducible rfl | simp only [zl, iz_add, iz_sub, iz_mul, iz_neg]) (by first | with_reducible rfl | simp only [zl, iz_add, iz_sub, iz_mul, iz_neg]) hv

def iv_X0_findWayOut_L56 (K : Int → (Nat → Int) → (Nat → Int) → Prop) (b1 : Int) (f_entering : (Nat → Int)) : Nat → Int → Int → (Nat → Int) → (Nat → Int) → Prop
  | 0, _, _, _, _ => False
  | n + 1, v2, v4, f_latest, f_step =>
    ((sm 6 ∧ sm v4) ∧ ((6 ≤ v4 → K v2 f_latest f_step) ∧ (¬ 6 ≤ v4 → (iv_X0_reachByNotWaiting v4 b1 f_entering f_latest f_step (fun (r_27 : Int) (u_26 : (Nat → Int) × (Nat → Int)) => ((zn v2 ∧ zn r_27) ∧ (∀ x2_34 : Int, x2_34 = (zor v2 r_27) → (∀ x4_36 : Int, x4_36 = v4 + 1 → iv_X0_findWayOut_L56 K b1 f_entering n x2_34 x4_36 u_26.1 u_26.2))))))))

set_option maxHeartbeats 4000000 in
theorem lift_X0_findWayOut_L56 {K0 : Int32 → (Nat → Int32) → (Nat → Int32) → Prop} {K : Int → (Nat → Int) → (Nat → Int) → Prop} {b1' : Int32} {b1 : Int} {f_entering' : (Nat → Int32)} {f_entering : (Nat → Int)} (e_b1 : b1' = iz b1) (e_f_entering : f_entering' = az f_entering)  (hKx : ∀ (k2' : Int32) (k_f_latest' : (Nat → Int32)) (k_f_step' : (Nat → Int32)) (k2 : Int) (k_f_latest : (Nat → Int)) (k_f_step : (Nat → Int)), K k2 k_f_latest k_f_step → k2' = iz k2 → k_f_latest' = az k_f_latest → k_f_step' = az k_f_step →  K0 k2' k_f_latest' k_f_step') :
    ∀ (n : Nat) (v2' : Int32) (v4' : Int32) (f_latest' : (Nat → Int32)) (f_step' : (Nat → Int32)) (v2 : Int) (v4 : Int) (f_latest : (Nat → Int)) (f_step : (Nat → Int)) (e_v2 : v2' = iz v2) (e_v4 : v4' = iz v4) (e_f_latest : f_latest' = az f_latest) (e_f_step : f_step' = az f_step), iv_X0_findWayOut_L56 K b1 f_entering n v2 v4 f_latest f_step → vc_X0_findWayOut_L56 K0 b1' f_entering' n v2' v4' f_latest' f_step' := by
  subst e_b1
  subst e_f_entering
  intro n
  induction n with
  | zero =>
    intro v2' v4' f_latest' f_step' v2 v4 f_latest f_step e_v2 e_v4 e_f_latest e_f_step hv
    exact False.elim hv
  | succ n ih =>
    intro v2' v4' f_latest' f_step' v2 v4 f_latest f_step e_v2 e_v4 e_f_latest e_f_step hv
    subst e_v2
    subst e_v4
    subst e_f_latest
    subst e_f_step
    rw [iv_X0_findWayOut_L56] at hv
    rw [vc_X0_findWayOut_L56]
    obtain ⟨hs_24, hv⟩ := hv
    have q_25 := z_le (x := 6) (a := 6) (by first | with_reducible rfl | simp only [zl, iz_add, iz_sub, iz_mul, iz_neg]) (y := (iz v4)) (b := v4) (by first | with_reducible rfl | simp only [zl, iz_add, iz_sub, iz_mul, iz_neg]) hs_24.1 hs_24.2
    refine ⟨fun c9 => ?_, fun c9 => ?_⟩
    · have hv := hv.1 (q_25.mp c9)
      exact hKx _ _ _ v2 f_latest f_step hv (by first | with_reducible rfl | simp only [zl, iz_add, iz_sub, iz_mul, iz_neg]) (by first | with_reducible rfl | simp only [zl, iz_add, iz_sub, iz_mul, iz_neg]) (by first | with_reducible rfl | simp only [zl, iz_add, iz_sub, iz_mul, iz_neg])
    · have hv := hv.2 (fun z9 => c9 (q_25.mpr z9))
      refine lift_X0_reachByNotWaiting (by first | with_reducible rfl | simp only [zl, iz_add, iz_sub, iz_mul, iz_neg]) (by first | with_reducible rfl | simp only [zl, iz_add, iz_sub, iz_mul, iz_neg]) (by first | with_reducible rfl | simp only [zl, iz_add, iz_sub, iz_mul, iz_neg]) (by first | with_reducible rfl | simp only [zl, iz_add, iz_sub, iz_mul, iz_neg]) (by first | with_reducible rfl | simp only [zl, iz_add, iz_sub, iz_mul, iz_neg]) hv (fun r_27 u_26 y_28 y_29 hv er_30 eu_31 => ?_)
      subst er_30; subst eu_31
      try dsimp only
      obtain ⟨hc_32, hv⟩ := hv
      have e_33 : ((iz v2) ||| (iz r_27)) = iz (zor v2 r_27) := z_or (by first | with_reducible rfl | simp only [zl, iz_add, iz_sub, iz_mul, iz_neg]) (by first | with_reducible rfl | simp only [zl, iz_add, iz_sub, iz_mul, iz_neg]) hc_32.1 hc_32.2
      try rw [e_33]
      intro y_35 hy_35
      obtain ⟨x2_34, hx2_34⟩ : ∃ z : Int, z = (zor v2 r_27) := ⟨_, rfl⟩
      have hv := hv x2_34 hx2_34
      have ey_35 : y_35 = iz x2_34 := by rw [hy_35, hx2_34]; try exact (by first | with_reducible rfl | simp only [zl, iz_add, iz_sub, iz_mul, iz_neg])
      subst ey_35
      intro y_37 hy_37
      obtain ⟨x4_36, hx4_36⟩ : ∃ z : Int, z = v4 + 1 := ⟨_, rfl⟩
      have hv := hv x4_36 hx4_36
      have ey_37 : y_37 = iz x4_36 := by rw [hy_37, hx4_36]; try exact (by first | with_reducible rfl | simp only [zl, iz_add, iz_sub, iz_mul, iz_neg])
      subst ey_37
      exact ih _ _ _ _ x2_34 x4_36 u_26.1 u_26.2 (by first | with_reducible rfl | simp only [zl, iz_add, iz_sub, iz_mul, iz_neg]) (by first | with_reducible rfl | simp only [zl, iz_add, iz_sub, iz_mul, iz_neg]) (by first | with_reducible rfl | simp only [zl, iz_add, iz_sub, iz_mul, iz_neg]) (by first | with_reducible rfl | simp only [zl, iz_add, iz_sub, iz_mul, iz_neg]) hv

def iv_X0_findWayOut_L83 (K : Int → (Nat → Int) → (Nat → Int) → Prop) (b1 : Int) (f_lanes : Int) (f_from : (Nat → Int)) (f_to : (Nat → Int)) (f_width : (Nat → Int)) (f_length : (Nat → Int)) (f_shut : (Nat → Int)) (f_safeRooms : Int) (f_entering : (Nat → Int)) : Nat → Int → Int → (Nat → Int) → (Nat → Int) → Prop
  | 0, _, _, _, _ => False
  | n + 1, v2, v4, f_latest, f_step =>
    ((sm f_lanes ∧ sm v4) ∧ ((f_lanes ≤ v4 → K v2 f_latest f_step) ∧ (¬ f_lanes ≤ v4 → ((0 ≤ v4 ∧ v4 < 16) ∧ (iv_X4_isIn f_safeRooms (f_from v4.toNat) (fun (r_46 : Int) (u_45 : Unit) => ((sm r_46 ∧ sm 0) ∧ ((¬ r_46 = 0 → (∀ x4_53 : Int, x4_53 = v4 + 1 → iv_X0_findWayOut_L83 K b1 f_lanes f_from f_to f_width f_length f_shut f_safeRooms f_entering n v2 x4_53 f_latest f_step)) ∧ (r_46 = 0 → (iv_X0_reachByEntering v4 f_from f_to f_width f_length f_shut f_entering f_latest f_step (fun (r_56 : Int) (u_55 : (Nat → Int) × (Nat → Int)) => ((zn v2 ∧ zn r_56) ∧ (∀ x2_63 : Int, x2_63 = (zor v2 r_56) → (iv_X0_reachByTakingBack v4 b1 f_from f_to f_length f_entering u_55.1 u_55.2 (fun (r_66 : Int) (u_65 : (Nat → Int) × (Nat → Int)) => ((zn x2_63 ∧ zn r_66) ∧ (∀ x2_73 : Int, x2_73 = (zor x2_63 r_66) → (∀ x4_75 : Int, x4_75 = v4 + 1 → iv_X0_findWayOut_L83 K b1 f_lanes f_from f_to f_width f_length f_shut f_safeRooms f_entering n x2_73 x4_75 u_65.1 u_65.2))))))))))))))))))

set_option maxHeartbeats 4000000 in
theorem lift_X0_findWayOut_L83 {K0 : Int32 → (Nat → Int32) → (Nat → Int32) → Prop} {K : Int → (Nat → Int) → (Nat → Int) → Prop} {b1' : Int32} {b1 : Int} {f_lanes' : Int32} {f_lanes : Int} {f_from' : (Nat → Int32)} {f_from : (Nat → Int)} {f_to' : (Nat → Int32)} {f_to : (Nat → Int)} {f_width' : (Nat → Int32)} {f_width : (Nat → Int)} {f_length' : (Nat → Int32)} {f_length : (Nat → Int)} {f_shut' : (Nat → Int32)} {f_shut : (Nat → Int)} {f_safeRooms' : Int32} {f_safeRooms : Int} {f_entering' : (Nat → Int32)} {f_entering : (Nat → Int)} (e_b1 : b1' = iz b1) (e_f_lanes : f_lanes' = iz f_lanes) (e_f_from : f_from' = az f_from) (e_f_to : f_to' = az f_to) (e_f_width : f_width' = az f_width) (e_f_length : f_length' = az f_length) (e_f_shut : f_shut' = az f_shut) (e_f_safeRooms : f_safeRooms' = iz f_safeRooms) (e_f_entering : f_entering' = az f_entering)  (hKx : ∀ (k2' : Int32) (k_f_latest' : (Nat → Int32)) (k_f_step' : (Nat → Int32)) (k2 : Int) (k_f_latest : (Nat → Int)) (k_f_step : (Nat → Int)), K k2 k_f_latest k_f_step → k2' = iz k2 → k_f_latest' = az k_f_latest → k_f_step' = az k_f_step →  K0 k2' k_f_latest' k_f_step') :
    ∀ (n : Nat) (v2' : Int32) (v4' : Int32) (f_latest' : (Nat → Int32)) (f_step' : (Nat → Int32)) (v2 : Int) (v4 : Int) (f_latest : (Nat → Int)) (f_step : (Nat → Int)) (e_v2 : v2' = iz v2) (e_v4 : v4' = iz v4) (e_f_latest : f_latest' = az f_latest) (e_f_step : f_step' = az f_step), iv_X0_findWayOut_L83 K b1 f_lanes f_from f_to f_width f_length f_shut f_safeRooms f_entering n v2 v4 f_latest f_step → vc_X0_findWayOut_L83 K0 b1' f_lanes' f_from' f_to' f_width' f_length' f_shut' f_safeRooms' f_entering' n v2' v4' f_latest' f_step' := by
  subst e_b1
  subst e_f_lanes
  subst e_f_from
  subst e_f_to
  subst e_f_width
  subst e_f_length
  subst e_f_shut
  subst e_f_safeRooms
  subst e_f_entering
  intro n
  induction n with
  | zero =>
    intro v2' v4' f_latest' f_step' v2 v4 f_latest f_step e_v2 e_v4 e_f_latest e_f_step hv
    exact False.elim hv
  | succ n ih =>
    intro v2' v4' f_latest' f_step' v2 v4 f_latest f_step e_v2 e_v4 e_f_latest e_f_step hv
    subst e_v2
    subst e_v4
    subst e_f_latest
    subst e_f_step
    rw [iv_X0_findWayOut_L83] at hv
    rw [vc_X0_findWayOut_L83]
    obtain ⟨hs_41, hv⟩ := hv
    have q_42 := z_le (x := (iz f_lanes)) (a := f_lanes) (by first | with_reducible rfl | simp only [zl, iz_add, iz_sub, iz_mul, iz_neg]) (y := (iz v4)) (b := v4) (by first | with_reducible rfl | simp only [zl, iz_add, iz_sub, iz_mul, iz_neg]) hs_41.1 hs_41.2
    refine ⟨fun c9 => ?_, fun c9 => ?_⟩
    · have hv := hv.1 (q_42.mp c9)
      exact hKx _ _ _ v2 f_latest f_step hv (by first | with_reducible rfl | simp only [zl, iz_add, iz_sub, iz_mul, iz_neg]) (by first | with_reducible rfl | simp only [zl, iz_add, iz_sub, iz_mul, iz_neg]) (by first | with_reducible rfl | simp only [zl, iz_add, iz_sub, iz_mul, iz_neg])
    · have hv := hv.2 (fun z9 => c9 (q_42.mpr z9))
      obtain ⟨hi_43, hv⟩ := hv
      refine ⟨z_in (by first | with_reducible rfl | simp only [zl, iz_add, iz_sub, iz_mul, iz_neg]) hi_43 (by decide), ?_⟩
      have e_44 : ((az f_from) ((iz v4)).toNatClampNeg) = iz (f_from v4.toNat) := z_at (by first | with_reducible rfl | simp only [zl, iz_add, iz_sub, iz_mul, iz_neg]) (by first | with_reducible rfl | simp only [zl, iz_add, iz_sub, iz_mul, iz_neg]) hi_43 (by decide)
      try rw [e_44]
      refine lift_X4_isIn (by first | with_reducible rfl | simp only [zl, iz_add, iz_sub, iz_mul, iz_neg]) (by first | with_reducible rfl | simp only [zl, iz_add, iz_sub, iz_mul, iz_neg]) hv (fun r_46 u_45 y_47 y_48 hv er_49 eu_50 => ?_)
      subst er_49; subst eu_50
      try dsimp only
      obtain ⟨hs_51, hv⟩ := hv
      have q_52 := z_eq (x := (iz r_46)) (a := r_46) (by first | with_reducible rfl | simp only [zl, iz_add, iz_sub, iz_mul, iz_neg]) (y := 0) (b := 0) (by first | with_reducible rfl | simp only [zl, iz_add, iz_sub, iz_mul, iz_neg]) hs_51.1 hs_51.2
      refine ⟨fun c9 => ?_, fun c9 => ?_⟩
      · have hv := hv.1 (fun z9 => c9 (q_52.mpr z9))
        intro y_54 hy_54
        obtain ⟨x4_53, hx4_53⟩ : ∃ z : Int, z = v4 + 1 := ⟨_, rfl⟩
        have hv := hv x4_53 hx4_53
        have ey_54 : y_54 = iz x4_53 := by rw [hy_54, hx4_53]; try exact (by first | with_reducible rfl | simp only [zl, iz_add, iz_sub, iz_mul, iz_neg])
        subst ey_54
        exact ih _ _ _ _ v2 x4_53 f_latest f_step (by first | with_reducible rfl | simp only [zl, iz_add, iz_sub, iz_mul, iz_neg]) (by first | with_reducible rfl | simp only [zl, iz_add, iz_sub, iz_mul, iz_neg]) (by first | with_reducible rfl | simp only [zl, iz_add, iz_sub, iz_mul, iz_neg]) (by first | with_reducible rfl | simp only [zl, iz_add, iz_sub, iz_mul, iz_neg]) hv
      · have hv := hv.2 (q_52.mp c9)
        refine lift_X0_reachByEntering (by first | with_reducible rfl | simp only [zl, iz_add, iz_sub, iz_mul, iz_neg]) (by first | with_reducible rfl | simp only [zl, iz_add, iz_sub, iz_mul, iz_neg]) (by first | with_reducible rfl | simp only [zl, iz_add, iz_sub, iz_mul, iz_neg]) (by first | with_reducible rfl | simp only [zl, iz_add, iz_sub, iz_mul, iz_neg]) (by first | with_reducible rfl | simp only [zl, iz_add, iz_sub, iz_mul, iz_neg]) (by first | with_reducible rfl | simp only [zl, iz_add, iz_sub, iz_mul, iz_neg]) (by first | with_reducible rfl | simp only [zl, iz_add, iz_sub, iz_mul, iz_neg]) (by first | with_reducible rfl | simp only [zl, iz_add, iz_sub, iz_mul, iz_neg]) (by first | with_reducible rfl | simp only [zl, iz_add, iz_sub, iz_mul, iz_neg]) hv (fun r_56 u_55 y_57 y_58 hv er_59 eu_60 => ?_)
        subst er_59; subst eu_60
        try dsimp only
        obtain ⟨hc_61, hv⟩ := hv
        have e_62 : ((iz v2) ||| (iz r_56)) = iz (zor v2 r_56) := z_or (by first | with_reducible rfl | simp only [zl, iz_add, iz_sub, iz_mul, iz_neg]) (by first | with_reducible rfl | simp only [zl, iz_add, iz_sub, iz_mul, iz_neg]) hc_61.1 hc_61.2
        try rw [e_62]
        intro y_64 hy_64
        obtain ⟨x2_63, hx2_63⟩ : ∃ z : Int, z = (zor v2 r_56) := ⟨_, rfl⟩
        have hv := hv x2_63 hx2_63
        have ey_64 : y_64 = iz x2_63 := by rw [hy_64, hx2_63]; try exact (by first | with_reducible rfl | simp only [zl, iz_add, iz_sub, iz_mul, iz_neg])
        subst ey_64
        refine lift_X0_reachByTakingBack (by first | with_reducible rfl | simp only [zl, iz_add, iz_sub, iz_mul, iz_neg]) (by first | with_reducible rfl | simp only [zl, iz_add, iz_sub, iz_mul, iz_neg]) (by first | with_reducible rfl | simp only [zl, iz_add, iz_sub, iz_mul, iz_neg]) (by first | with_reducible rfl | simp only [zl, iz_add, iz_sub, iz_mul, iz_neg]) (by first | with_reducible rfl | simp only [zl, iz_add, iz_sub, iz_mul, iz_neg]) (by first | with_reducible rfl | simp only [zl, iz_add, iz_sub, iz_mul, iz_neg]) (by first | with_reducible rfl | simp only [zl, iz_add, iz_sub, iz_mul, iz_neg]) (by first | with_reducible rfl | simp only [zl, iz_add, iz_sub, iz_mul, iz_neg]) hv (fun r_66 u_65 y_67 y_68 hv er_69 eu_70 => ?_)
        subst er_69; subst eu_70
        try dsimp only
        obtain ⟨hc_71, hv⟩ := hv
        have e_72 : ((iz x2_63) ||| (iz r_66)) = iz (zor x2_63 r_66) := z_or (by first | with_reducible rfl | simp only [zl, iz_add, iz_sub, iz_mul, iz_neg]) (by first | with_reducible rfl | simp only [zl, iz_add, iz_sub, iz_mul, iz_neg]) hc_71.1 hc_71.2
        try rw [e_72]
        intro y_74 hy_74
        obtain ⟨x2_73, hx2_73⟩ : ∃ z : Int, z = (zor x2_63 r_66) := ⟨_, rfl⟩
        have hv := hv x2_73 hx2_73
        have ey_74 : y_74 = iz x2_73 := by rw [hy_74, hx2_73]; try exact (by first | with_reducible rfl | simp only [zl, iz_add, iz_sub, iz_mul, iz_neg])
        subst ey_74
        intro y_76 hy_76
        obtain ⟨x4_75, hx4_75⟩ : ∃ z : Int, z = v4 + 1 := ⟨_, rfl⟩
        have hv := hv x4_75 hx4_75
        have ey_76 : y_76 = iz x4_75 := by rw [hy_76, hx4_75]; try exact (by first | with_reducible rfl | simp only [zl, iz_add, iz_sub, iz_mul, iz_neg])
        subst ey_76
        exact ih _ _ _ _ x2_73 x4_75 u_65.1 u_65.2 (by first | with_reducible rfl | simp only [zl, iz_add, iz_sub, iz_mul, iz_neg]) (by first | with_reducible rfl | simp only [zl, iz_add, iz_sub, iz_mul, iz_neg]) (by first | with_reducible rfl | simp only [zl, iz_add, iz_sub, iz_mul, iz_neg]) (by first | with_reducible rfl | simp only [zl, iz_add, iz_sub, iz_mul, iz_neg]) hv

def iv_X0_findWayOut_L40 (K : (Nat → Int) → (Nat → Int) → Prop) (post : Int → ((Nat → Int) × (Nat → Int)) → Prop) (b1 : Int) (f_lanes : Int) (f_from : (Nat → Int)) (f_to : (Nat → Int)) (f_width : (Nat → Int)) (f_length : (Nat → Int)) (f_shut : (Nat → Int)) (f_safeRooms : Int) (f_notLed : (Nat → Int)) (f_entering : (Nat → Int)) : Nat → Int → Int → (Nat → Int) → (Nat → Int) → Prop
  | 0, _, _, _, _ => False
  | n + 1, v2, v3, f_latest, f_step =>
    ((sm v2 ∧ sm 0) ∧ ((v2 = 0 → K f_latest f_step) ∧ (¬ v2 = 0 → ((sm 366 ∧ sm v3) ∧ ((366 < v3 → K f_latest f_step) ∧ (¬ 366 < v3 → (∃ n_97, iv_X0_findWayOut_L56 (fun k2_38 f_latest_39 f_step_40 => (∃ n_90, iv_X0_findWayOut_L83 (fun k2_77 f_latest_78 f_step_79 => (iv_X0_reachedRoomNotLed f_notLed f_latest_78 (fun (r_81 : Int) (u_80 : Unit) => ((sm r_81 ∧ sm 0) ∧ ((r_81 < 0 → (∀ x3_88 : Int, x3_88 = v3 + 1 → iv_X0_findWayOut_L40 K post b1 f_lanes f_from f_to f_width f_length f_shut f_safeRooms f_notLed f_entering n k2_77 x3_88 f_latest_78 f_step_79)) ∧ (¬ r_81 < 0 → post r_81 (f_latest_78, f_step_79)))))))  b1 f_lanes f_from f_to f_width f_length f_shut f_safeRooms f_entering n_90 k2_38 6 f_latest_39 f_step_40))  b1 f_entering n_97 0 0 f_latest f_step)))))))

set_option maxHeartbeats 4000000 in
theorem lift_X0_findWayOut_L40 {K0 : (Nat → Int32) → (Nat → Int32) → Prop} {K : (Nat → Int) → (Nat → Int) → Prop} {post0 : Int32 → ((Nat → Int32) × (Nat → Int32)) → Prop} {post : Int → ((Nat → Int) × (Nat → Int)) → Prop} {b1' : Int32} {b1 : Int} {f_lanes' : Int32} {f_lanes : Int} {f_from' : (Nat → Int32)} {f_from : (Nat → Int)} {f_to' : (Nat → Int32)} {f_to : (Nat → Int)} {f_width' : (Nat → Int32)} {f_width : (Nat → Int)} {f_length' : (Nat → Int32)} {f_length : (Nat → Int)} {f_shut' : (Nat → Int32)} {f_shut : (Nat → Int)} {f_safeRooms' : Int32} {f_safeRooms : Int} {f_notLed' : (Nat → Int32)} {f_notLed : (Nat → Int)} {f_entering' : (Nat → Int32)} {f_entering : (Nat → Int)} (e_b1 : b1' = iz b1) (e_f_lanes : f_lanes' = iz f_lanes) (e_f_from : f_from' = az f_from) (e_f_to : f_to' = az f_to) (e_f_width : f_width' = az f_width) (e_f_length : f_length' = az f_length) (e_f_shut : f_shut' = az f_shut) (e_f_safeRooms : f_safeRooms' = iz f_safeRooms) (e_f_notLed : f_notLed' = az f_notLed) (e_f_entering : f_entering' = az f_entering)  (hKx : ∀ (k_f_latest' : (Nat → Int32)) (k_f_step' : (Nat → Int32)) (k_f_latest : (Nat → Int)) (k_f_step : (Nat → Int)), K k_f_latest k_f_step → k_f_latest' = az k_f_latest → k_f_step' = az k_f_step →  K0 k_f_latest' k_f_step') (hp : ∀ (r : Int) (u : (Nat → Int) × (Nat → Int)) (x : Int32) (y : (Nat → Int32) × (Nat → Int32)), post r u → x = iz r → y = (az u.1, az u.2) → post0 x y) :
    ∀ (n : Nat) (v2' : Int32) (v3' : Int32) (f_latest' : (Nat → Int32)) (f_step' : (Nat → Int32)) (v2 : Int) (v3 : Int) (f_latest : (Nat → Int)) (f_step : (Nat → Int)) (e_v2 : v2' = iz v2) (e_v3 : v3' = iz v3) (e_f_latest : f_latest' = az f_latest) (e_f_step : f_step' = az f_step), iv_X0_findWayOut_L40 K post b1 f_lanes f_from f_to f_width f_length f_shut f_safeRooms f_notLed f_entering n v2 v3 f_latest f_step → vc_X0_findWayOut_L40 K0 post0 b1' f_lanes' f_from' f_to' f_width' f_length' f_shut' f_safeRooms' f_notLed' f_entering' n v2' v3' f_latest' f_step' := by
  subst e_b1
  subst e_f_lanes
  subst e_f_from
  subst e_f_to
  subst e_f_width
  subst e_f_length
  subst e_f_shut
  subst e_f_safeRooms
  subst e_f_notLed
  subst e_f_entering
  intro n
  induction n with
  | zero =>
    intro v2' v3' f_latest' f_step' v2 v3 f_latest f_step e_v2 e_v3 e_f_latest e_f_step hv
    exact False.elim hv
  | succ n ih =>
    intro v2' v3' f_latest' f_step' v2 v3 f_latest f_step e_v2 e_v3 e_f_latest e_f_step hv
    subst e_v2
    subst e_v3
    subst e_f_latest
    subst e_f_step
    rw [iv_X0_findWayOut_L40] at hv
    rw [vc_X0_findWayOut_L40]
    obtain ⟨hs_20, hv⟩ := hv
    have q_21 := z_eq (x := (iz v2)) (a := v2) (by first | with_reducible rfl | simp only [zl, iz_add, iz_sub, iz_mul, iz_neg]) (y := 0) (b := 0) (by first | with_reducible rfl | simp only [zl, iz_add, iz_sub, iz_mul, iz_neg]) hs_20.1 hs_20.2
    refine ⟨fun c9 => ?_, fun c9 => ?_⟩
    · have hv := hv.1 (q_21.mp c9)
      exact hKx _ _ f_latest f_step hv (by first | with_reducible rfl | simp only [zl, iz_add, iz_sub, iz_mul, iz_neg]) (by first | with_reducible rfl | simp only [zl, iz_add, iz_sub, iz_mul, iz_neg])
    · have hv := hv.2 (fun z9 => c9 (q_21.mpr z9))
      obtain ⟨hs_22, hv⟩ := hv
      have q_23 := z_lt (x := 366) (a := 366) (by first | with_reducible rfl | simp only [zl, iz_add, iz_sub, iz_mul, iz_neg]) (y := (iz v3)) (b := v3) (by first | with_reducible rfl | simp only [zl, iz_add, iz_sub, iz_mul, iz_neg]) hs_22.1 hs_22.2
      refine ⟨fun c9 => ?_, fun c9 => ?_⟩
      · have hv := hv.1 (q_23.mp c9)
        exact hKx _ _ f_latest f_step hv (by first | with_reducible rfl | simp only [zl, iz_add, iz_sub, iz_mul, iz_neg]) (by first | with_reducible rfl | simp only [zl, iz_add, iz_sub, iz_mul, iz_neg])
      · have hv := hv.2 (fun z9 => c9 (q_23.mpr z9))
        obtain ⟨n_97, hv⟩ := hv
        refine ⟨n_97, lift_X0_findWayOut_L56 (by first | with_reducible rfl | simp only [zl, iz_add, iz_sub, iz_mul, iz_neg]) (by first | with_reducible rfl | simp only [zl, iz_add, iz_sub, iz_mul, iz_neg]) (fun y_98 y_99 y_100 k2_38 f_latest_39 f_step_40 hv ey_101 ey_102 ey_103 => ?_)  n_97 _ _ _ _ 0 0 f_latest f_step (by first | with_reducible rfl | simp only [zl, iz_add, iz_sub, iz_mul, iz_neg]) (by first | with_reducible rfl | simp only [zl, iz_add, iz_sub, iz_mul, iz_neg]) (by first | with_reducible rfl | simp only [zl, iz_add, iz_sub, iz_mul, iz_neg]) (by first | with_reducible rfl | simp only [zl, iz_add, iz_sub, iz_mul, iz_neg]) hv⟩
        subst ey_101
        subst ey_102
        subst ey_103
        obtain ⟨n_90, hv⟩ := hv
        refine ⟨n_90, lift_X0_findWayOut_L83 (by first | with_reducible rfl | simp only [zl, iz_add, iz_sub, iz_mul, iz_neg]) (by first | with_reducible rfl | simp only [zl, iz_add, iz_sub, iz_mul, iz_neg]) (by first | with_reducible rfl | simp only [zl, iz_add, iz_sub, iz_mul, iz_neg]) (by first | with_reducible rfl | simp only [zl, iz_add, iz_sub, iz_mul, iz_neg]) (by first | with_reducible rfl | simp only [zl, iz_add, iz_sub, iz_mul, iz_neg]) (by first | with_reducible rfl | simp only [zl, iz_add, iz_sub, iz_mul, iz_neg]) (by first | with_reducible rfl | simp only [zl, iz_add, iz_sub, iz_mul, iz_neg]) (by first | with_reducible rfl | simp only [zl, iz_add, iz_sub, iz_mul, iz_neg]) (by first | with_reducible rfl | simp only [zl, iz_add, iz_sub, iz_mul, iz_neg]) (fun y_91 y_92 y_93 k2_77 f_latest_78 f_step_79 hv ey_94 ey_95 ey_96 => ?_)  n_90 _ _ _ _ k2_38 6 f_latest_39 f_step_40 (by first | with_reducible rfl | simp only [zl, iz_add, iz_sub, iz_mul, iz_neg]) (by first | with_reducible rfl | simp only [zl, iz_add, iz_sub, iz_mul, iz_neg]) (by first | with_reducible rfl | simp only [zl, iz_add, iz_sub, iz_mul, iz_neg]) (by first | with_reducible rfl | simp only [zl, iz_add, iz_sub, iz_mul, iz_neg]) hv⟩
        subst ey_94
        subst ey_95
        subst ey_96
        refine lift_X0_reachedRoomNotLed (by first | with_reducible rfl | simp only [zl, iz_add, iz_sub, iz_mul, iz_neg]) (by first | with_reducible rfl | simp only [zl, iz_add, iz_sub, iz_mul, iz_neg]) hv (fun r_81 u_80 y_82 y_83 hv er_84 eu_85 => ?_)
        subst er_84; subst eu_85
        try dsimp only
        obtain ⟨hs_86, hv⟩ := hv
        have q_87 := z_lt (x := (iz r_81)) (a := r_81) (by first | with_reducible rfl | simp only [zl, iz_add, iz_sub, iz_mul, iz_neg]) (y := 0) (b := 0) (by first | with_reducible rfl | simp only [zl, iz_add, iz_sub, iz_mul, iz_neg]) hs_86.1 hs_86.2
        refine ⟨fun c9 => ?_, fun c9 => ?_⟩
        · have hv := hv.1 (q_87.mp c9)
          intro y_89 hy_89
          obtain ⟨x3_88, hx3_88⟩ : ∃ z : Int, z = v3 + 1 := ⟨_, rfl⟩
          have hv := hv x3_88 hx3_88
          have ey_89 : y_89 = iz x3_88 := by rw [hy_89, hx3_88]; try exact (by first | with_reducible rfl | simp only [zl, iz_add, iz_sub, iz_mul, iz_neg])
          subst ey_89
          exact ih _ _ _ _ k2_77 x3_88 f_latest_78 f_step_79 (by first | with_reducible rfl | simp only [zl, iz_add, iz_sub, iz_mul, iz_neg]) (by first | with_reducible rfl | simp only [zl, iz_add, iz_sub, iz_mul, iz_neg]) (by first | with_reducible rfl | simp only [zl, iz_add, iz_sub, iz_mul, iz_neg]) (by first | with_reducible rfl | simp only [zl, iz_add, iz_sub, iz_mul, iz_neg]) hv
        · have hv := hv.2 (fun z9 => c9 (q_87.mpr z9))
          exact hp _ _ _ _ hv (by first | with_reducible rfl | simp only [zl, iz_add, iz_sub, iz_mul, iz_neg]) (by first | with_reducible rfl | simp only [zl, iz_add, iz_sub, iz_mul, iz_neg])

def iv_X0_findWayOut (a1 : Int) (f_lanes : Int) (f_from : (Nat → Int)) (f_to : (Nat → Int)) (f_width : (Nat → Int)) (f_length : (Nat → Int)) (f_shut : (Nat → Int)) (f_safeRooms : Int) (f_notLed : (Nat → Int)) (f_entering : (Nat → Int)) (f_latest : (Nat → Int)) (f_step : (Nat → Int)) (post : Int → ((Nat → Int) × (Nat → Int)) → Prop) : Prop :=
  (∃ n_111, iv_X0_findWayOut_L2 (fun f_latest_19 => (∃ n_106, iv_X0_findWayOut_L40 (fun f_latest_104 f_step_105 => post (-1) (f_latest_104, f_step_105)) post a1 f_lanes f_from f_to f_width f_length f_shut f_safeRooms f_notLed f_entering n_106 1 0 f_latest_19 f_step))  a1 f_safeRooms n_111 0 f_latest)

set_option maxHeartbeats 4000000 in
theorem lift_X0_findWayOut {a1' : Int32} {a1 : Int} {f_lanes' : Int32} {f_lanes : Int} {f_from' : (Nat → Int32)} {f_from : (Nat → Int)} {f_to' : (Nat → Int32)} {f_to : (Nat → Int)} {f_width' : (Nat → Int32)} {f_width : (Nat → Int)} {f_length' : (Nat → Int32)} {f_length : (Nat → Int)} {f_shut' : (Nat → Int32)} {f_shut : (Nat → Int)} {f_safeRooms' : Int32} {f_safeRooms : Int} {f_notLed' : (Nat → Int32)} {f_notLed : (Nat → Int)} {f_entering' : (Nat → Int32)} {f_entering : (Nat → Int)} {f_latest' : (Nat → Int32)} {f_latest : (Nat → Int)} {f_step' : (Nat → Int32)} {f_step : (Nat → Int)} (e_a1 : a1' = iz a1) (e_f_lanes : f_lanes' = iz f_lanes) (e_f_from : f_from' = az f_from) (e_f_to : f_to' = az f_to) (e_f_width : f_width' = az f_width) (e_f_length : f_length' = az f_length) (e_f_shut : f_shut' = az f_shut) (e_f_safeRooms : f_safeRooms' = iz f_safeRooms) (e_f_notLed : f_notLed' = az f_notLed) (e_f_entering : f_entering' = az f_entering) (e_f_latest : f_latest' = az f_latest) (e_f_step : f_step' = az f_step) {post0 : Int32 → ((Nat → Int32) × (Nat → Int32)) → Prop} {post : Int → ((Nat → Int) × (Nat → Int)) → Prop} (hv : iv_X0_findWayOut a1 f_lanes f_from f_to f_width f_length f_shut f_safeRooms f_notLed f_entering f_latest f_step post) (hp : ∀ (r : Int) (u : (Nat → Int) × (Nat → Int)) (x : Int32) (y : (Nat → Int32) × (Nat → Int32)), post r u → x = iz r → y = (az u.1, az u.2) → post0 x y) : vc_X0_findWayOut a1' f_lanes' f_from' f_to' f_width' f_length' f_shut' f_safeRooms' f_notLed' f_entering' f_latest' f_step' post0 := by
  subst e_a1
  subst e_f_lanes
  subst e_f_from
  subst e_f_to
  subst e_f_width
  subst e_f_length
  subst e_f_shut
  subst e_f_safeRooms
  subst e_f_notLed
  subst e_f_entering
  subst e_f_latest
  subst e_f_step
  rw [iv_X0_findWayOut] at hv
  rw [vc_X0_findWayOut]
  obtain ⟨n_111, hv⟩ := hv
  refine ⟨n_111, lift_X0_findWayOut_L2 (by first | with_reducible rfl | simp only [zl, iz_add, iz_sub, iz_mul, iz_neg]) (by first | with_reducible rfl | simp only [zl, iz_add, iz_sub, iz_mul, iz_neg]) (fun y_112 f_latest_19 hv ey_113 => ?_)  n_111 _ _ 0 f_latest (by first | with_reducible rfl | simp only [zl, iz_add, iz_sub, iz_mul, iz_neg]) (by first | with_reducible rfl | simp only [zl, iz_add, iz_sub, iz_mul, iz_neg]) hv⟩
  subst ey_113
  obtain ⟨n_106, hv⟩ := hv
  refine ⟨n_106, lift_X0_findWayOut_L40 (by first | with_reducible rfl | simp only [zl, iz_add, iz_sub, iz_mul, iz_neg]) (by first | with_reducible rfl | simp only [zl, iz_add, iz_sub, iz_mul, iz_neg]) (by first | with_reducible rfl | simp only [zl, iz_add, iz_sub, iz_mul, iz_neg]) (by first | with_reducible rfl | simp only [zl, iz_add, iz_sub, iz_mul, iz_neg]) (by first | with_reducible rfl | simp only [zl, iz_add, iz_sub, iz_mul, iz_neg]) (by first | with_reducible rfl | simp only [zl, iz_add, iz_sub, iz_mul, iz_neg]) (by first | with_reducible rfl | simp only [zl, iz_add, iz_sub, iz_mul, iz_neg]) (by first | with_reducible rfl | simp only [zl, iz_add, iz_sub, iz_mul, iz_neg]) (by first | with_reducible rfl | simp only [zl, iz_add, iz_sub, iz_mul, iz_neg]) (by first | with_reducible rfl | simp only [zl, iz_add, iz_sub, iz_mul, iz_neg]) (fun y_107 y_108 f_latest_104 f_step_105 hv ey_109 ey_110 => ?_) hp n_106 _ _ _ _ 1 0 f_latest_19 f_step (by first | with_reducible rfl | simp only [zl, iz_add, iz_sub, iz_mul, iz_neg]) (by first | with_reducible rfl | simp only [zl, iz_add, iz_sub, iz_mul, iz_neg]) (by first | with_reducible rfl | simp only [zl, iz_add, iz_sub, iz_mul, iz_neg]) (by first | with_reducible rfl | simp only [zl, iz_add, iz_sub, iz_mul, iz_neg]) hv⟩
  subst ey_109
  subst ey_110
  exact hp _ _ _ _ hv (by first | with_reducible rfl | simp only [zl, iz_add, iz_sub, iz_mul, iz_neg]) (by first | with_reducible rfl | simp only [zl, iz_add, iz_sub, iz_mul, iz_neg])

def iv_X0_traceWay_L19 (K : (Nat → Int) → (Nat → Int) → Int → Int → Prop) (post : ((Nat → Int) × (Nat → Int) × Int × Int) → Prop) (f_lanes : Int) (f_from : (Nat → Int)) (f_to : (Nat → Int)) (f_width : (Nat → Int)) (f_length : (Nat → Int)) (f_safeRooms : Int) (f_entering : (Nat → Int)) (f_step : (Nat → Int)) : Nat → Int → Int → (Nat → Int) → (Nat → Int) → Int → Int → Prop
  | 0, _, _, _, _, _, _ => False
  | n + 1, v2, v3, f_wayEntry, f_wayAhead, f_waySteps, f_wayWidth =>
    ((sm 366 ∧ sm f_waySteps) ∧ ((366 ≤ f_waySteps → K f_wayEntry f_wayAhead f_waySteps f_wayWidth) ∧ (¬ 366 ≤ f_waySteps → (iv_X4_isIn f_safeRooms v2 (fun (r_6 : Int) (u_5 : Unit) => ((sm r_6 ∧ sm 0) ∧ ((¬ r_6 = 0 → K f_wayEntry f_wayAhead f_waySteps f_wayWidth) ∧ (r_6 = 0 → ((0 ≤ ((v2 * 61) + v3) ∧ ((v2 * 61) + v3) < 366) ∧ (∀ x4_15 : Int, x4_15 = (f_step (((v2 * 61) + v3)).toNat) → ((sm x4_15 ∧ sm 0) ∧ ((x4_15 ≤ 0 → ((sm x4_15) ∧ (∀ x6_21 : Int, x6_21 = ((if 0 ≤ x4_15 then x4_15 else 0 - x4_15) - 1) → (iv_X4_isWithin x6_21 0 (f_lanes - 1) (fun (r_24 : Int) (u_23 : Unit) => ((sm r_24 ∧ sm 0) ∧ ((¬ r_24 = 0 → ((0 ≤ x6_21 ∧ x6_21 < 16) ∧ (∀ x7_33 : Int, x7_33 = (v3 - (f_length x6_21.toNat)) → (iv_X4_isWithin x7_33 0 60 (fun (r_36 : Int) (u_35 : Unit) => ((sm r_36 ∧ sm 0) ∧ ((r_36 = 0 → post (f_wayEntry, f_wayAhead, f_waySteps, 0)) ∧ (¬ r_36 = 0 → (iv_X4_isWithin x7_33 0 60 (fun (r_44 : Int) (u_43 : Unit) => ((sm r_44 ∧ sm 0) ∧ ((¬ r_44 = 0 → ((0 ≤ x6_21 ∧ x6_21 < 16) ∧ (∀ x2_53 : Int, x2_53 = (f_from x6_21.toNat) → (∀ x8_55 : Int, x8_55 = ((x6_21 * 61) + x7_33) → ((0 ≤ x8_55 ∧ x8_55 < 976) ∧ ((sm (f_entering x8_55.toNat) ∧ sm f_wayWidth) ∧ ((0 ≤ f_waySteps ∧ f_waySteps < 366) ∧ ((0 ≤ f_waySteps ∧ f_waySteps < 366) ∧ iv_X0_traceWay_L19 K post f_lanes f_from f_to f_width f_length f_safeRooms f_entering f_step n x2_53 x7_33 (uz f_wayEntry f_waySteps.toNat x8_55) (uz f_wayAhead f_waySteps.toNat 0) (f_waySteps + 1) (if (f_entering x8_55.toNat) < f_wayWidth then (f_entering x8_55.toNat) else f_wayWidth))))))))) ∧ (r_44 = 0 → post (f_wayEntry, f_wayAhead, f_waySteps, 0)))))))))))))) ∧ (r_24 = 0 → post (f_wayEntry, f_wayAhead, f_waySteps, 0))))))))) ∧ (¬ x4_15 ≤ 0 → ((sm x4_15) ∧ (∀ x6_67 : Int, x6_67 = ((if 0 ≤ x4_15 then x4_15 else 0 - x4_15) - 1) → (iv_X4_isWithin x6_67 0 (f_lanes - 1) (fun (r_70 : Int) (u_69 : Unit) => ((sm r_70 ∧ sm 0) ∧ ((¬ r_70 = 0 → ((0 ≤ x6_67 ∧ x6_67 < 16) ∧ (∀ x3_79 : Int, x3_79 = (v3 + (f_length x6_67.toNat)) → (iv_X4_isWithin v3 0 60 (fun (r_82 : Int) (u_81 : Unit) => ((sm r_82 ∧ sm 0) ∧ ((r_82 = 0 → post (f_wayEntry, f_wayAhead, f_waySteps, 0)) ∧ (¬ r_82 = 0 → (iv_X4_isWithin x3_79 0 60 (fun (r_90 : Int) (u_89 : Unit) => ((sm r_90 ∧ sm 0) ∧ ((¬ r_90 = 0 → ((0 ≤ x6_67 ∧ x6_67 < 16) ∧ (∀ x2_99 : Int, x2_99 = (f_to x6_67.toNat) → (∀ x8_101 : Int, x8_101 = ((x6_67 * 61) + v3) → ((0 ≤ x6_67 ∧ x6_67 < 16) ∧ ((0 ≤ x8_101 ∧ x8_101 < 976) ∧ ((sm ((f_width x6_67.toNat) - (f_entering x8_101.toNat)) ∧ sm f_wayWidth) ∧ ((0 ≤ f_waySteps ∧ f_waySteps < 366) ∧ ((0 ≤ f_waySteps ∧ f_waySteps < 366) ∧ iv_X0_traceWay_L19 K post f_lanes f_from f_to f_width f_length f_safeRooms f_entering f_step n x2_99 x3_79 (uz f_wayEntry f_waySteps.toNat x8_101) (uz f_wayAhead f_waySteps.toNat 1) (f_waySteps + 1) (if ((f_width x6_67.toNat) - (f_entering x8_101.toNat)) < f_wayWidth then ((f_width x6_67.toNat) - (f_entering x8_101.toNat)) else f_wayWidth)))))))))) ∧ (r_90 = 0 → post (f_wayEntry, f_wayAhead, f_waySteps, 0)))))))))))))) ∧ (r_70 = 0 → post (f_wayEntry, f_wayAhead, f_waySteps, 0)))))))))))))))))))))

set_option maxHeartbeats 4000000 in
theorem lift_X0_traceWay_L19 {K0 : (Nat → Int32) → (Nat → Int32) → Int32 → Int32 → Prop} {K : (Nat → Int) → (Nat → Int) → Int → Int → Prop} {post0 : ((Nat → Int32) × (Nat → Int32) × Int32 × Int32) → Prop} {post : ((Nat → Int) × (Nat → Int) × Int × Int) → Prop} {f_lanes' : Int32} {f_lanes : Int} {f_from' : (Nat → Int32)} {f_from : (Nat → Int)} {f_to' : (Nat → Int32)} {f_to : (Nat → Int)} {f_width' : (Nat → Int32)} {f_width : (Nat → Int)} {f_length' : (Nat → Int32)} {f_length : (Nat → Int)} {f_safeRooms' : Int32} {f_safeRooms : Int} {f_entering' : (Nat → Int32)} {f_entering : (Nat → Int)} {f_step' : (Nat → Int32)} {f_step : (Nat → Int)} (e_f_lanes : f_lanes' = iz f_lanes) (e_f_from : f_from' = az f_from) (e_f_to : f_to' = az f_to) (e_f_width : f_width' = az f_width) (e_f_length : f_length' = az f_length) (e_f_safeRooms : f_safeRooms' = iz f_safeRooms) (e_f_entering : f_entering' = az f_entering) (e_f_step : f_step' = az f_step)  (hKx : ∀ (k_f_wayEntry' : (Nat → Int32)) (k_f_wayAhead' : (Nat → Int32)) (k_f_waySteps' : Int32) (k_f_wayWidth' : Int32) (k_f_wayEntry : (Nat → Int)) (k_f_wayAhead : (Nat → Int)) (k_f_waySteps : Int) (k_f_wayWidth : Int), K k_f_wayEntry k_f_wayAhead k_f_waySteps k_f_wayWidth → k_f_wayEntry' = az k_f_wayEntry → k_f_wayAhead' = az k_f_wayAhead → k_f_waySteps' = iz k_f_waySteps → k_f_wayWidth' = iz k_f_wayWidth →  K0 k_f_wayEntry' k_f_wayAhead' k_f_waySteps' k_f_wayWidth') (hp : ∀ (u : (Nat → Int) × (Nat → Int) × Int × Int) (y : (Nat → Int32) × (Nat → Int32) × Int32 × Int32), post u → y = (az u.1, az u.2.1, iz u.2.2.1, iz u.2.2.2) → post0 y) :
    ∀ (n : Nat) (v2' : Int32) (v3' : Int32) (f_wayEntry' : (Nat → Int32)) (f_wayAhead' : (Nat → Int32)) (f_waySteps' : Int32) (f_wayWidth' : Int32) (v2 : Int) (v3 : Int) (f_wayEntry : (Nat → Int)) (f_wayAhead : (Nat → Int)) (f_waySteps : Int) (f_wayWidth : Int) (e_v2 : v2' = iz v2) (e_v3 : v3' = iz v3) (e_f_wayEntry : f_wayEntry' = az f_wayEntry) (e_f_wayAhead : f_wayAhead' = az f_wayAhead) (e_f_waySteps : f_waySteps' = iz f_waySteps) (e_f_wayWidth : f_wayWidth' = iz f_wayWidth), iv_X0_traceWay_L19 K post f_lanes f_from f_to f_width f_length f_safeRooms f_entering f_step n v2 v3 f_wayEntry f_wayAhead f_waySteps f_wayWidth → vc_X0_traceWay_L19 K0 post0 f_lanes' f_from' f_to' f_width' f_length' f_safeRooms' f_entering' f_step' n v2' v3' f_wayEntry' f_wayAhead' f_waySteps' f_wayWidth' := by
  subst e_f_lanes
  subst e_f_from
  subst e_f_to
  subst e_f_width
  subst e_f_length
  subst e_f_safeRooms
  subst e_f_entering
  subst e_f_step
  intro n
  induction n with
  | zero =>
    intro v2' v3' f_wayEntry' f_wayAhead' f_waySteps' f_wayWidth' v2 v3 f_wayEntry f_wayAhead f_waySteps f_wayWidth e_v2 e_v3 e_f_wayEntry e_f_wayAhead e_f_waySteps e_f_wayWidth hv
    exact False.elim hv
  | succ n ih =>
    intro v2' v3' f_wayEntry' f_wayAhead' f_waySteps' f_wayWidth' v2 v3 f_wayEntry f_wayAhead f_waySteps f_wayWidth e_v2 e_v3 e_f_wayEntry e_f_wayAhead e_f_waySteps e_f_wayWidth hv
    subst e_v2
    subst e_v3
    subst e_f_wayEntry
    subst e_f_wayAhead
    subst e_f_waySteps
    subst e_f_wayWidth
    rw [iv_X0_traceWay_L19] at hv
    rw [vc_X0_traceWay_L19]
    obtain ⟨hs_3, hv⟩ := hv
    have q_4 := z_le (x := 366) (a := 366) (by first | with_reducible rfl | simp only [zl, iz_add, iz_sub, iz_mul, iz_neg]) (y := (iz f_waySteps)) (b := f_waySteps) (by first | with_reducible rfl | simp only [zl, iz_add, iz_sub, iz_mul, iz_neg]) hs_3.1 hs_3.2
    refine ⟨fun c9 => ?_, fun c9 => ?_⟩
    · have hv := hv.1 (q_4.mp c9)
      exact hKx _ _ _ _ f_wayEntry f_wayAhead f_waySteps f_wayWidth hv (by first | with_reducible rfl | simp only [zl, iz_add, iz_sub, iz_mul, iz_neg]) (by first | with_reducible rfl | simp only [zl, iz_add, iz_sub, iz_mul, iz_neg]) (by first | with_reducible rfl | simp only [zl, iz_add, iz_sub, iz_mul, iz_neg]) (by first | with_reducible rfl | simp only [zl, iz_add, iz_sub, iz_mul, iz_neg])
    · have hv := hv.2 (fun z9 => c9 (q_4.mpr z9))
      refine lift_X4_isIn (by first | with_reducible rfl | simp only [zl, iz_add, iz_sub, iz_mul, iz_neg]) (by first | with_reducible rfl | simp only [zl, iz_add, iz_sub, iz_mul, iz_neg]) hv (fun r_6 u_5 y_7 y_8 hv er_9 eu_10 => ?_)
      subst er_9; subst eu_10
      try dsimp only
      obtain ⟨hs_11, hv⟩ := hv
      have q_12 := z_eq (x := (iz r_6)) (a := r_6) (by first | with_reducible rfl | simp only [zl, iz_add, iz_sub, iz_mul, iz_neg]) (y := 0) (b := 0) (by first | with_reducible rfl | simp only [zl, iz_add, iz_sub, iz_mul, iz_neg]) hs_11.1 hs_11.2
      refine ⟨fun c9 => ?_, fun c9 => ?_⟩
      · have hv := hv.1 (fun z9 => c9 (q_12.mpr z9))
        exact hKx _ _ _ _ f_wayEntry f_wayAhead f_waySteps f_wayWidth hv (by first | with_reducible rfl | simp only [zl, iz_add, iz_sub, iz_mul, iz_neg]) (by first | with_reducible rfl | simp only [zl, iz_add, iz_sub, iz_mul, iz_neg]) (by first | with_reducible rfl | simp only [zl, iz_add, iz_sub, iz_mul, iz_neg]) (by first | with_reducible rfl | simp only [zl, iz_add, iz_sub, iz_mul, iz_neg])
      · have hv := hv.2 (q_12.mp c9)
        obtain ⟨hi_13, hv⟩ := hv
        refine ⟨z_in (by first | with_reducible rfl | simp only [zl, iz_add, iz_sub, iz_mul, iz_neg]) hi_13 (by decide), ?_⟩
        have e_14 : ((az f_step) ((((iz v2) * 61) + (iz v3))).toNatClampNeg) = iz (f_step (((v2 * 61) + v3)).toNat) := z_at (by first | with_reducible rfl | simp only [zl, iz_add, iz_sub, iz_mul, iz_neg]) (by first | with_reducible rfl | simp only [zl, iz_add, iz_sub, iz_mul, iz_neg]) hi_13 (by decide)
        try rw [e_14]
        intro y_16 hy_16
        obtain ⟨x4_15, hx4_15⟩ : ∃ z : Int, z = (f_step (((v2 * 61) + v3)).toNat) := ⟨_, rfl⟩
        have hv := hv x4_15 hx4_15
        have ey_16 : y_16 = iz x4_15 := by rw [hy_16, hx4_15]; try exact (by first | with_reducible rfl | simp only [zl, iz_add, iz_sub, iz_mul, iz_neg])
        subst ey_16
        obtain ⟨hs_17, hv⟩ := hv
        have q_18 := z_le (x := (iz x4_15)) (a := x4_15) (by first | with_reducible rfl | simp only [zl, iz_add, iz_sub, iz_mul, iz_neg]) (y := 0) (b := 0) (by first | with_reducible rfl | simp only [zl, iz_add, iz_sub, iz_mul, iz_neg]) hs_17.1 hs_17.2
        refine ⟨fun c9 => ?_, fun c9 => ?_⟩
        · have hv := hv.1 (q_18.mp c9)
          obtain ⟨hc_19, hv⟩ := hv
          have e_20 : (if 0 ≤ (iz x4_15) then (iz x4_15) else 0 - (iz x4_15)) = iz (if 0 ≤ x4_15 then x4_15 else 0 - x4_15) := z_abs (by first | with_reducible rfl | simp only [zl, iz_add, iz_sub, iz_mul, iz_neg]) hc_19
          try rw [e_20]
          intro y_22 hy_22
          obtain ⟨x6_21, hx6_21⟩ : ∃ z : Int, z = ((if 0 ≤ x4_15 then x4_15 else 0 - x4_15) - 1) := ⟨_, rfl⟩
          have hv := hv x6_21 hx6_21
          have ey_22 : y_22 = iz x6_21 := by rw [hy_22, hx6_21]; try exact (by first | with_reducible rfl | simp only [zl, iz_add, iz_sub, iz_mul, iz_neg])
          subst ey_22
          refine lift_X4_isWithin (by first | with_reducible rfl | simp only [zl, iz_add, iz_sub, iz_mul, iz_neg]) (by first | with_reducible rfl | simp only [zl, iz_add, iz_sub, iz_mul, iz_neg]) (by first | with_reducible rfl | simp only [zl, iz_add, iz_sub, iz_mul, iz_neg]) hv (fun r_24 u_23 y_25 y_26 hv er_27 eu_28 => ?_)
          subst er_27; subst eu_28
          try dsimp only
          obtain ⟨hs_29, hv⟩ := hv
          have q_30 := z_eq (x := (iz r_24)) (a := r_24) (by first | with_reducible rfl | simp only [zl, iz_add, iz_sub, iz_mul, iz_neg]) (y := 0) (b := 0) (by first | with_reducible rfl | simp only [zl, iz_add, iz_sub, iz_mul, iz_neg]) hs_29.1 hs_29.2
          refine ⟨fun c9 => ?_, fun c9 => ?_⟩
          · have hv := hv.1 (fun z9 => c9 (q_30.mpr z9))
            obtain ⟨hi_31, hv⟩ := hv
            refine ⟨z_in (by first | with_reducible rfl | simp only [zl, iz_add, iz_sub, iz_mul, iz_neg]) hi_31 (by decide), ?_⟩
            have e_32 : ((az f_length) ((iz x6_21)).toNatClampNeg) = iz (f_length x6_21.toNat) := z_at (by first | with_reducible rfl | simp only [zl, iz_add, iz_sub, iz_mul, iz_neg]) (by first | with_reducible rfl | simp only [zl, iz_add, iz_sub, iz_mul, iz_neg]) hi_31 (by decide)
            try rw [e_32]
            intro y_34 hy_34
            obtain ⟨x7_33, hx7_33⟩ : ∃ z : Int, z = (v3 - (f_length x6_21.toNat)) := ⟨_, rfl⟩
            have hv := hv x7_33 hx7_33
            have ey_34 : y_34 = iz x7_33 := by rw [hy_34, hx7_33]; try exact (by first | with_reducible rfl | simp only [zl, iz_add, iz_sub, iz_mul, iz_neg])
            subst ey_34
            refine lift_X4_isWithin (by first | with_reducible rfl | simp only [zl, iz_add, iz_sub, iz_mul, iz_neg]) (by first | with_reducible rfl | simp only [zl, iz_add, iz_sub, iz_mul, iz_neg]) (by first | with_reducible rfl | simp only [zl, iz_add, iz_sub, iz_mul, iz_neg]) hv (fun r_36 u_35 y_37 y_38 hv er_39 eu_40 => ?_)
            subst er_39; subst eu_40
            try dsimp only
            obtain ⟨hs_41, hv⟩ := hv
            have q_42 := z_eq (x := (iz r_36)) (a := r_36) (by first | with_reducible rfl | simp only [zl, iz_add, iz_sub, iz_mul, iz_neg]) (y := 0) (b := 0) (by first | with_reducible rfl | simp only [zl, iz_add, iz_sub, iz_mul, iz_neg]) hs_41.1 hs_41.2
            refine ⟨fun c9 => ?_, fun c9 => ?_⟩
            · have hv := hv.1 (q_42.mp c9)
              exact hp _ _ hv (by first | with_reducible rfl | simp only [zl, iz_add, iz_sub, iz_mul, iz_neg])
            · have hv := hv.2 (fun z9 => c9 (q_42.mpr z9))
              refine lift_X4_isWithin (by first | with_reducible rfl | simp only [zl, iz_add, iz_sub, iz_mul, iz_neg]) (by first | with_reducible rfl | simp only [zl, iz_add, iz_sub, iz_mul, iz_neg]) (by first | with_reducible rfl | simp only [zl, iz_add, iz_sub, iz_mul, iz_neg]) hv (fun r_44 u_43 y_45 y_46 hv er_47 eu_48 => ?_)
              subst er_47; subst eu_48
              try dsimp only
              obtain ⟨hs_49, hv⟩ := hv
              have q_50 := z_eq (x := (iz r_44)) (a := r_44) (by first | with_reducible rfl | simp only [zl, iz_add, iz_sub, iz_mul, iz_neg]) (y := 0) (b := 0) (by first | with_reducible rfl | simp only [zl, iz_add, iz_sub, iz_mul, iz_neg]) hs_49.1 hs_49.2
              refine ⟨fun c9 => ?_, fun c9 => ?_⟩
              · have hv := hv.1 (fun z9 => c9 (q_50.mpr z9))
                obtain ⟨hi_51, hv⟩ := hv
                refine ⟨z_in (by first | with_reducible rfl | simp only [zl, iz_add, iz_sub, iz_mul, iz_neg]) hi_51 (by decide), ?_⟩
                have e_52 : ((az f_from) ((iz x6_21)).toNatClampNeg) = iz (f_from x6_21.toNat) := z_at (by first | with_reducible rfl | simp only [zl, iz_add, iz_sub, iz_mul, iz_neg]) (by first | with_reducible rfl | simp only [zl, iz_add, iz_sub, iz_mul, iz_neg]) hi_51 (by decide)
                try rw [e_52]
                intro y_54 hy_54
                obtain ⟨x2_53, hx2_53⟩ : ∃ z : Int, z = (f_from x6_21.toNat) := ⟨_, rfl⟩
                have hv := hv x2_53 hx2_53
                have ey_54 : y_54 = iz x2_53 := by rw [hy_54, hx2_53]; try exact (by first | with_reducible rfl | simp only [zl, iz_add, iz_sub, iz_mul, iz_neg])
                subst ey_54
                intro y_56 hy_56
                obtain ⟨x8_55, hx8_55⟩ : ∃ z : Int, z = ((x6_21 * 61) + x7_33) := ⟨_, rfl⟩
                have hv := hv x8_55 hx8_55
                have ey_56 : y_56 = iz x8_55 := by rw [hy_56, hx8_55]; try exact (by first | with_reducible rfl | simp only [zl, iz_add, iz_sub, iz_mul, iz_neg])
                subst ey_56
                obtain ⟨hi_57, hv⟩ := hv
                refine ⟨z_in (by first | with_reducible rfl | simp only [zl, iz_add, iz_sub, iz_mul, iz_neg]) hi_57 (by decide), ?_⟩
                have e_58 : ((az f_entering) ((iz x8_55)).toNatClampNeg) = iz (f_entering x8_55.toNat) := z_at (by first | with_reducible rfl | simp only [zl, iz_add, iz_sub, iz_mul, iz_neg]) (by first | with_reducible rfl | simp only [zl, iz_add, iz_sub, iz_mul, iz_neg]) hi_57 (by decide)
                try rw [e_58]
                obtain ⟨hc_59, hv⟩ := hv
                have e_60 : (if (iz (f_entering x8_55.toNat)) < (iz f_wayWidth) then (iz (f_entering x8_55.toNat)) else (iz f_wayWidth)) = iz (if (f_entering x8_55.toNat) < f_wayWidth then (f_entering x8_55.toNat) else f_wayWidth) := z_min (by first | with_reducible rfl | simp only [zl, iz_add, iz_sub, iz_mul, iz_neg]) (by first | with_reducible rfl | simp only [zl, iz_add, iz_sub, iz_mul, iz_neg]) hc_59.1 hc_59.2
                try rw [e_60]
                obtain ⟨hi_61, hv⟩ := hv
                refine ⟨z_in (by first | with_reducible rfl | simp only [zl, iz_add, iz_sub, iz_mul, iz_neg]) hi_61 (by decide), ?_⟩
                have e_62 : (upd (az f_wayEntry) ((iz f_waySteps)).toNatClampNeg (iz x8_55)) = az (uz f_wayEntry f_waySteps.toNat x8_55) := z_upd (by first | with_reducible rfl | simp only [zl, iz_add, iz_sub, iz_mul, iz_neg]) (by first | with_reducible rfl | simp only [zl, iz_add, iz_sub, iz_mul, iz_neg]) (by first | with_reducible rfl | simp only [zl, iz_add, iz_sub, iz_mul, iz_neg]) hi_61 (by decide)
                try rw [e_62]
                obtain ⟨hi_63, hv⟩ := hv
                refine ⟨z_in (by first | with_reducible rfl | simp only [zl, iz_add, iz_sub, iz_mul, iz_neg]) hi_63 (by decide), ?_⟩
                have e_64 : (upd (az f_wayAhead) ((iz f_waySteps)).toNatClampNeg 0) = az (uz f_wayAhead f_waySteps.toNat 0) := z_upd (by first | with_reducible rfl | simp only [zl, iz_add, iz_sub, iz_mul, iz_neg]) (by first | with_reducible rfl | simp only [zl, iz_add, iz_sub, iz_mul, iz_neg]) (by first | with_reducible rfl | simp only [zl, iz_add, iz_sub, iz_mul, iz_neg]) hi_63 (by decide)
                try rw [e_64]
                exact ih _ _ _ _ _ _ x2_53 x7_33 (uz f_wayEntry f_waySteps.toNat x8_55) (uz f_wayAhead f_waySteps.toNat 0) (f_waySteps + 1) (if (f_entering x8_55.toNat) < f_wayWidth then (f_entering x8_55.toNat) else f_wayWidth) (by first | with_reducible rfl | simp only [zl, iz_add, iz_sub, iz_mul, iz_neg]) (by first | with_reducible rfl | simp only [zl, iz_add, iz_sub, iz_mul, iz_neg]) (by first | with_reducible rfl | simp only [zl, iz_add, iz_sub, iz_mul, iz_neg]) (by first | with_reducible rfl | simp only [zl, iz_add, iz_sub, iz_mul, iz_neg]) (by first | with_reducible rfl | simp only [zl, iz_add, iz_sub, iz_mul, iz_neg]) (by first | with_reducible rfl | simp only [zl, iz_add, iz_sub, iz_mul, iz_neg]) hv
              · have hv := hv.2 (q_50.mp c9)
                exact hp _ _ hv (by first | with_reducible rfl | simp only [zl, iz_add, iz_sub, iz_mul, iz_neg])
          · have hv := hv.2 (q_30.mp c9)
            exact hp _ _ hv (by first | with_reducible rfl | simp only [zl, iz_add, iz_sub, iz_mul, iz_neg])
        · have hv := hv.2 (fun z9 => c9 (q_18.mpr z9))
          obtain ⟨hc_65, hv⟩ := hv
          have e_66 : (if 0 ≤ (iz x4_15) then (iz x4_15) else 0 - (iz x4_15)) = iz (if 0 ≤ x4_15 then x4_15 else 0 - x4_15) := z_abs (by first | with_reducible rfl | simp only [zl, iz_add, iz_sub, iz_mul, iz_neg]) hc_65
          try rw [e_66]
          intro y_68 hy_68
          obtain ⟨x6_67, hx6_67⟩ : ∃ z : Int, z = ((if 0 ≤ x4_15 then x4_15 else 0 - x4_15) - 1) := ⟨_, rfl⟩
          have hv := hv x6_67 hx6_67
          have ey_68 : y_68 = iz x6_67 := by rw [hy_68, hx6_67]; try exact (by first | with_reducible rfl | simp only [zl, iz_add, iz_sub, iz_mul, iz_neg])
          subst ey_68
          refine lift_X4_isWithin (by first | with_reducible rfl | simp only [zl, iz_add, iz_sub, iz_mul, iz_neg]) (by first | with_reducible rfl | simp only [zl, iz_add, iz_sub, iz_mul, iz_neg]) (by first | with_reducible rfl | simp only [zl, iz_add, iz_sub, iz_mul, iz_neg]) hv (fun r_70 u_69 y_71 y_72 hv er_73 eu_74 => ?_)
          subst er_73; subst eu_74
          try dsimp only
          obtain ⟨hs_75, hv⟩ := hv
          have q_76 := z_eq (x := (iz r_70)) (a := r_70) (by first | with_reducible rfl | simp only [zl, iz_add, iz_sub, iz_mul, iz_neg]) (y := 0) (b := 0) (by first | with_reducible rfl | simp only [zl, iz_add, iz_sub, iz_mul, iz_neg]) hs_75.1 hs_75.2
          refine ⟨fun c9 => ?_, fun c9 => ?_⟩
          · have hv := hv.1 (fun z9 => c9 (q_76.mpr z9))
            obtain ⟨hi_77, hv⟩ := hv
            refine ⟨z_in (by first | with_reducible rfl | simp only [zl, iz_add, iz_sub, iz_mul, iz_neg]) hi_77 (by decide), ?_⟩
            have e_78 : ((az f_length) ((iz x6_67)).toNatClampNeg) = iz (f_length x6_67.toNat) := z_at (by first | with_reducible rfl | simp only [zl, iz_add, iz_sub, iz_mul, iz_neg]) (by first | with_reducible rfl | simp only [zl, iz_add, iz_sub, iz_mul, iz_neg]) hi_77 (by decide)
            try rw [e_78]
            intro y_80 hy_80
            obtain ⟨x3_79, hx3_79⟩ : ∃ z : Int, z = (v3 + (f_length x6_67.toNat)) := ⟨_, rfl⟩
            have hv := hv x3_79 hx3_79
            have ey_80 : y_80 = iz x3_79 := by rw [hy_80, hx3_79]; try exact (by first | with_reducible rfl | simp only [zl, iz_add, iz_sub, iz_mul, iz_neg])
            subst ey_80
            refine lift_X4_isWithin (by first | with_reducible rfl | simp only [zl, iz_add, iz_sub, iz_mul, iz_neg]) (by first | with_reducible rfl | simp only [zl, iz_add, iz_sub, iz_mul, iz_neg]) (by first | with_reducible rfl | simp only [zl, iz_add, iz_sub, iz_mul, iz_neg]) hv (fun r_82 u_81 y_83 y_84 hv er_85 eu_86 => ?_)
            subst er_85; subst eu_86
            try dsimp only
            obtain ⟨hs_87, hv⟩ := hv
            have q_88 := z_eq (x := (iz r_82)) (a := r_82) (by first | with_reducible rfl | simp only [zl, iz_add, iz_sub, iz_mul, iz_neg]) (y := 0) (b := 0) (by first | with_reducible rfl | simp only [zl, iz_add, iz_sub, iz_mul, iz_neg]) hs_87.1 hs_87.2
            refine ⟨fun c9 => ?_, fun c9 => ?_⟩
            · have hv := hv.1 (q_88.mp c9)
              exact hp _ _ hv (by first | with_reducible rfl | simp only [zl, iz_add, iz_sub, iz_mul, iz_neg])
            · have hv := hv.2 (fun z9 => c9 (q_88.mpr z9))
              refine lift_X4_isWithin (by first | with_reducible rfl | simp only [zl, iz_add, iz_sub, iz_mul, iz_neg]) (by first | with_reducible rfl | simp only [zl, iz_add, iz_sub, iz_mul, iz_neg]) (by first | with_reducible rfl | simp only [zl, iz_add, iz_sub, iz_mul, iz_neg]) hv (fun r_90 u_89 y_91 y_92 hv er_93 eu_94 => ?_)
              subst er_93; subst eu_94
              try dsimp only
              obtain ⟨hs_95, hv⟩ := hv
              have q_96 := z_eq (x := (iz r_90)) (a := r_90) (by first | with_reducible rfl | simp only [zl, iz_add, iz_sub, iz_mul, iz_neg]) (y := 0) (b := 0) (by first | with_reducible rfl | simp only [zl, iz_add, iz_sub, iz_mul, iz_neg]) hs_95.1 hs_95.2
              refine ⟨fun c9 => ?_, fun c9 => ?_⟩
              · have hv := hv.1 (fun z9 => c9 (q_96.mpr z9))
                obtain ⟨hi_97, hv⟩ := hv
                refine ⟨z_in (by first | with_reducible rfl | simp only [zl, iz_add, iz_sub, iz_mul, iz_neg]) hi_97 (by decide), ?_⟩
                have e_98 : ((az f_to) ((iz x6_67)).toNatClampNeg) = iz (f_to x6_67.toNat) := z_at (by first | with_reducible rfl | simp only [zl, iz_add, iz_sub, iz_mul, iz_neg]) (by first | with_reducible rfl | simp only [zl, iz_add, iz_sub, iz_mul, iz_neg]) hi_97 (by decide)
                try rw [e_98]
                intro y_100 hy_100
                obtain ⟨x2_99, hx2_99⟩ : ∃ z : Int, z = (f_to x6_67.toNat) := ⟨_, rfl⟩
                have hv := hv x2_99 hx2_99
                have ey_100 : y_100 = iz x2_99 := by rw [hy_100, hx2_99]; try exact (by first | with_reducible rfl | simp only [zl, iz_add, iz_sub, iz_mul, iz_neg])
                subst ey_100
                intro y_102 hy_102
                obtain ⟨x8_101, hx8_101⟩ : ∃ z : Int, z = ((x6_67 * 61) + v3) := ⟨_, rfl⟩
                have hv := hv x8_101 hx8_101
                have ey_102 : y_102 = iz x8_101 := by rw [hy_102, hx8_101]; try exact (by first | with_reducible rfl | simp only [zl, iz_add, iz_sub, iz_mul, iz_neg])
                subst ey_102
                obtain ⟨hi_103, hv⟩ := hv
                refine ⟨z_in (by first | with_reducible rfl | simp only [zl, iz_add, iz_sub, iz_mul, iz_neg]) hi_103 (by decide), ?_⟩
                have e_104 : ((az f_width) ((iz x6_67)).toNatClampNeg) = iz (f_width x6_67.toNat) := z_at (by first | with_reducible rfl | simp only [zl, iz_add, iz_sub, iz_mul, iz_neg]) (by first | with_reducible rfl | simp only [zl, iz_add, iz_sub, iz_mul, iz_neg]) hi_103 (by decide)
                try rw [e_104]
                obtain ⟨hi_105, hv⟩ := hv
                refine ⟨z_in (by first | with_reducible rfl | simp only [zl, iz_add, iz_sub, iz_mul, iz_neg]) hi_105 (by decide), ?_⟩
                have e_106 : ((az f_entering) ((iz x8_101)).toNatClampNeg) = iz (f_entering x8_101.toNat) := z_at (by first | with_reducible rfl | simp only [zl, iz_add, iz_sub, iz_mul, iz_neg]) (by first | with_reducible rfl | simp only [zl, iz_add, iz_sub, iz_mul, iz_neg]) hi_105 (by decide)
                try rw [e_106]
                obtain ⟨hc_107, hv⟩ := hv
                have e_108 : (if ((iz (f_width x6_67.toNat)) - (iz (f_entering x8_101.toNat))) < (iz f_wayWidth) then ((iz (f_width x6_67.toNat)) - (iz (f_entering x8_101.toNat))) else (iz f_wayWidth)) = iz (if ((f_width x6_67.toNat) - (f_entering x8_101.toNat)) < f_wayWidth then ((f_width x6_67.toNat) - (f_entering x8_101.toNat)) else f_wayWidth) := z_min (by first | with_reducible rfl | simp only [zl, iz_add, iz_sub, iz_mul, iz_neg]) (by first | with_reducible rfl | simp only [zl, iz_add, iz_sub, iz_mul, iz_neg]) hc_107.1 hc_107.2
                try rw [e_108]
                obtain ⟨hi_109, hv⟩ := hv
                refine ⟨z_in (by first | with_reducible rfl | simp only [zl, iz_add, iz_sub, iz_mul, iz_neg]) hi_109 (by decide), ?_⟩
                have e_110 : (upd (az f_wayEntry) ((iz f_waySteps)).toNatClampNeg (iz x8_101)) = az (uz f_wayEntry f_waySteps.toNat x8_101) := z_upd (by first | with_reducible rfl | simp only [zl, iz_add, iz_sub, iz_mul, iz_neg]) (by first | with_reducible rfl | simp only [zl, iz_add, iz_sub, iz_mul, iz_neg]) (by first | with_reducible rfl | simp only [zl, iz_add, iz_sub, iz_mul, iz_neg]) hi_109 (by decide)
                try rw [e_110]
                obtain ⟨hi_111, hv⟩ := hv
                refine ⟨z_in (by first | with_reducible rfl | simp only [zl, iz_add, iz_sub, iz_mul, iz_neg]) hi_111 (by decide), ?_⟩
                have e_112 : (upd (az f_wayAhead) ((iz f_waySteps)).toNatClampNeg 1) = az (uz f_wayAhead f_waySteps.toNat 1) := z_upd (by first | with_reducible rfl | simp only [zl, iz_add, iz_sub, iz_mul, iz_neg]) (by first | with_reducible rfl | simp only [zl, iz_add, iz_sub, iz_mul, iz_neg]) (by first | with_reducible rfl | simp only [zl, iz_add, iz_sub, iz_mul, iz_neg]) hi_111 (by decide)
                try rw [e_112]
                exact ih _ _ _ _ _ _ x2_99 x3_79 (uz f_wayEntry f_waySteps.toNat x8_101) (uz f_wayAhead f_waySteps.toNat 1) (f_waySteps + 1) (if ((f_width x6_67.toNat) - (f_entering x8_101.toNat)) < f_wayWidth then ((f_width x6_67.toNat) - (f_entering x8_101.toNat)) else f_wayWidth) (by first | with_reducible rfl | simp only [zl, iz_add, iz_sub, iz_mul, iz_neg]) (by first | with_reducible rfl | simp only [zl, iz_add, iz_sub, iz_mul, iz_neg]) (by first | with_reducible rfl | simp only [zl, iz_add, iz_sub, iz_mul, iz_neg]) (by first | with_reducible rfl | simp only [zl, iz_add, iz_sub, iz_mul, iz_neg]) (by first | with_reducible rfl | simp only [zl, iz_add, iz_sub, iz_mul, iz_neg]) (by first | with_reducible rfl | simp only [zl, iz_add, iz_sub, iz_mul, iz_neg]) hv
              · have hv := hv.2 (q_96.mp c9)
                exact hp _ _ hv (by first | with_reducible rfl | simp only [zl, iz_add, iz_sub, iz_mul, iz_neg])
          · have hv := hv.2 (q_76.mp c9)
            exact hp _ _ hv (by first | with_reducible rfl | simp only [zl, iz_add, iz_sub, iz_mul, iz_neg])

def iv_X0_traceWay (a1 : Int) (f_lanes : Int) (f_from : (Nat → Int)) (f_to : (Nat → Int)) (f_width : (Nat → Int)) (f_length : (Nat → Int)) (f_safeRooms : Int) (f_notLed : (Nat → Int)) (f_entering : (Nat → Int)) (f_step : (Nat → Int)) (f_wayEntry : (Nat → Int)) (f_wayAhead : (Nat → Int)) (f_waySteps : Int) (f_wayWidth : Int) (post : ((Nat → Int) × (Nat → Int) × Int × Int) → Prop) : Prop :=
  ((0 ≤ a1 ∧ a1 < 6) ∧ (∃ n_117, iv_X0_traceWay_L19 (fun f_wayEntry_113 f_wayAhead_114 f_waySteps_115 f_wayWidth_116 => post (f_wayEntry_113, f_wayAhead_114, f_waySteps_115, f_wayWidth_116)) post f_lanes f_from f_to f_width f_length f_safeRooms f_entering f_step n_117 a1 0 f_wayEntry f_wayAhead 0 (f_notLed a1.toNat)))

set_option maxHeartbeats 4000000 in
theorem lift_X0_traceWay {a1' : Int32} {a1 : Int} {f_lanes' : Int32} {f_lanes : Int} {f_from' : (Nat → Int32)} {f_from : (Nat → Int)} {f_to' : (Nat → Int32)} {f_to : (Nat → Int)} {f_width' : (Nat → Int32)} {f_width : (Nat → Int)} {f_length' : (Nat → Int32)} {f_length : (Nat → Int)} {f_safeRooms' : Int32} {f_safeRooms : Int} {f_notLed' : (Nat → Int32)} {f_notLed : (Nat → Int)} {f_entering' : (Nat → Int32)} {f_entering : (Nat → Int)} {f_step' : (Nat → Int32)} {f_step : (Nat → Int)} {f_wayEntry' : (Nat → Int32)} {f_wayEntry : (Nat → Int)} {f_wayAhead' : (Nat → Int32)} {f_wayAhead : (Nat → Int)} {f_waySteps' : Int32} {f_waySteps : Int} {f_wayWidth' : Int32} {f_wayWidth : Int} (e_a1 : a1' = iz a1) (e_f_lanes : f_lanes' = iz f_lanes) (e_f_from : f_from' = az f_from) (e_f_to : f_to' = az f_to) (e_f_width : f_width' = az f_width) (e_f_length : f_length' = az f_length) (e_f_safeRooms : f_safeRooms' = iz f_safeRooms) (e_f_notLed : f_notLed' = az f_notLed) (e_f_entering : f_entering' = az f_entering) (e_f_step : f_step' = az f_step) (e_f_wayEntry : f_wayEntry' = az f_wayEntry) (e_f_wayAhead : f_wayAhead' = az f_wayAhead) (e_f_waySteps : f_waySteps' = iz f_waySteps) (e_f_wayWidth : f_wayWidth' = iz f_wayWidth) {post0 : ((Nat → Int32) × (Nat → Int32) × Int32 × Int32) → Prop} {post : ((Nat → Int) × (Nat → Int) × Int × Int) → Prop} (hv : iv_X0_traceWay a1 f_lanes f_from f_to f_width f_length f_safeRooms f_notLed f_entering f_step f_wayEntry f_wayAhead f_waySteps f_wayWidth post) (hp : ∀ (u : (Nat → Int) × (Nat → Int) × Int × Int) (y : (Nat → Int32) × (Nat → Int32) × Int32 × Int32), post u → y = (az u.1, az u.2.1, iz u.2.2.1, iz u.2.2.2) → post0 y) : vc_X0_traceWay a1' f_lanes' f_from' f_to' f_width' f_length' f_safeRooms' f_notLed' f_entering' f_step' f_wayEntry' f_wayAhead' f_waySteps' f_wayWidth' post0 := by
  subst e_a1
  subst e_f_lanes
  subst e_f_from
  subst e_f_to
  subst e_f_width
  subst e_f_length
  subst e_f_safeRooms
  subst e_f_notLed
  subst e_f_entering
  subst e_f_step
  subst e_f_wayEntry
  subst e_f_wayAhead
  subst e_f_waySteps
  subst e_f_wayWidth
  rw [iv_X0_traceWay] at hv
  rw [vc_X0_traceWay]
  obtain ⟨hi_1, hv⟩ := hv
  refine ⟨z_in (by first | with_reducible rfl | simp only [zl, iz_add, iz_sub, iz_mul, iz_neg]) hi_1 (by decide), ?_⟩
  have e_2 : ((az f_notLed) ((iz a1)).toNatClampNeg) = iz (f_notLed a1.toNat) := z_at (by first | with_reducible rfl | simp only [zl, iz_add, iz_sub, iz_mul, iz_neg]) (by first | with_reducible rfl | simp only [zl, iz_add, iz_sub, iz_mul, iz_neg]) hi_1 (by decide)
  try rw [e_2]
  obtain ⟨n_117, hv⟩ := hv
  refine ⟨n_117, lift_X0_traceWay_L19 (by first | with_reducible rfl | simp only [zl, iz_add, iz_sub, iz_mul, iz_neg]) (by first | with_reducible rfl | simp only [zl, iz_add, iz_sub, iz_mul, iz_neg]) (by first | with_reducible rfl | simp only [zl, iz_add, iz_sub, iz_mul, iz_neg]) (by first | with_reducible rfl | simp only [zl, iz_add, iz_sub, iz_mul, iz_neg]) (by first | with_reducible rfl | simp only [zl, iz_add, iz_sub, iz_mul, iz_neg]) (by first | with_reducible rfl | simp only [zl, iz_add, iz_sub, iz_mul, iz_neg]) (by first | with_reducible rfl | simp only [zl, iz_add, iz_sub, iz_mul, iz_neg]) (by first | with_reducible rfl | simp only [zl, iz_add, iz_sub, iz_mul, iz_neg]) (fun y_118 y_119 y_120 y_121 f_wayEntry_113 f_wayAhead_114 f_waySteps_115 f_wayWidth_116 hv ey_122 ey_123 ey_124 ey_125 => ?_) hp n_117 _ _ _ _ _ _ a1 0 f_wayEntry f_wayAhead 0 (f_notLed a1.toNat) (by first | with_reducible rfl | simp only [zl, iz_add, iz_sub, iz_mul, iz_neg]) (by first | with_reducible rfl | simp only [zl, iz_add, iz_sub, iz_mul, iz_neg]) (by first | with_reducible rfl | simp only [zl, iz_add, iz_sub, iz_mul, iz_neg]) (by first | with_reducible rfl | simp only [zl, iz_add, iz_sub, iz_mul, iz_neg]) (by first | with_reducible rfl | simp only [zl, iz_add, iz_sub, iz_mul, iz_neg]) (by first | with_reducible rfl | simp only [zl, iz_add, iz_sub, iz_mul, iz_neg]) hv⟩
  subst ey_122
  subst ey_123
  subst ey_124
  subst ey_125
  exact hp _ _ hv (by first | with_reducible rfl | simp only [zl, iz_add, iz_sub, iz_mul, iz_neg])

def iv_X0_leadAlongWay_L2 (K : (Nat → Int) → Prop) (f_wayEntry : (Nat → Int)) (f_wayAhead : (Nat → Int)) (f_waySteps : Int) (f_wayWidth : Int) : Nat → Int → (Nat → Int) → Prop
  | 0, _, _ => False
  | n + 1, v2, f_entering =>
    ((sm f_waySteps ∧ sm v2) ∧ ((f_waySteps ≤ v2 → K f_entering) ∧ (¬ f_waySteps ≤ v2 → ((0 ≤ v2 ∧ v2 < 366) ∧ ((0 ≤ (f_wayEntry v2.toNat) ∧ (f_wayEntry v2.toNat) < 976) ∧ ((0 ≤ v2 ∧ v2 < 366) ∧ ((sm (f_wayAhead v2.toNat) ∧ sm 0) ∧ (((f_wayAhead v2.toNat) = 0 → ((0 ≤ (f_wayEntry v2.toNat) ∧ (f_wayEntry v2.toNat) < 976) ∧ (∀ x2_13 : Int, x2_13 = v2 + 1 → iv_X0_leadAlongWay_L2 K f_wayEntry f_wayAhead f_waySteps f_wayWidth n x2_13 (uz f_entering ((f_wayEntry v2.toNat)).toNat ((f_entering ((f_wayEntry v2.toNat)).toNat) + (-f_wayWidth)))))) ∧ (¬ (f_wayAhead v2.toNat) = 0 → ((0 ≤ (f_wayEntry v2.toNat) ∧ (f_wayEntry v2.toNat) < 976) ∧ (∀ x2_17 : Int, x2_17 = v2 + 1 → iv_X0_leadAlongWay_L2 K f_wayEntry f_wayAhead f_waySteps f_wayWidth n x2_17 (uz f_entering ((f_wayEntry v2.toNat)).toNat ((f_entering ((f_wayEntry v2.toNat)).toNat) + f_wayWidth)))))))))))))

set_option maxHeartbeats 4000000 in
theorem lift_X0_leadAlongWay_L2 {K0 : (Nat → Int32) → Prop} {K : (Nat → Int) → Prop} {f_wayEntry' : (Nat → Int32)} {f_wayEntry : (Nat → Int)} {f_wayAhead' : (Nat → Int32)} {f_wayAhead : (Nat → Int)} {f_waySteps' : Int32} {f_waySteps : Int} {f_wayWidth' : Int32} {f_wayWidth : Int} (e_f_wayEntry : f_wayEntry' = az f_wayEntry) (e_f_wayAhead : f_wayAhead' = az f_wayAhead) (e_f_waySteps : f_waySteps' = iz f_waySteps) (e_f_wayWidth : f_wayWidth' = iz f_wayWidth)  (hKx : ∀ (k_f_entering' : (Nat → Int32)) (k_f_entering : (Nat → Int)), K k_f_entering → k_f_entering' = az k_f_entering →  K0 k_f_entering') :
    ∀ (n : Nat) (v2' : Int32) (f_entering' : (Nat → Int32)) (v2 : Int) (f_entering : (Nat → Int)) (e_v2 : v2' = iz v2) (e_f_entering : f_entering' = az f_entering), iv_X0_leadAlongWay_L2 K f_wayEntry f_wayAhead f_waySteps f_wayWidth n v2 f_entering → vc_X0_leadAlongWay_L2 K0 f_wayEntry' f_wayAhead' f_waySteps' f_wayWidth' n v2' f_entering' := by
  subst e_f_wayEntry
  subst e_f_wayAhead
  subst e_f_waySteps
  subst e_f_wayWidth
  intro n
  induction n with
  | zero =>
    intro v2' f_entering' v2 f_entering e_v2 e_f_entering hv
    exact False.elim hv
  | succ n ih =>
    intro v2' f_entering' v2 f_entering e_v2 e_f_entering hv
    subst e_v2
    subst e_f_entering
    rw [iv_X0_leadAlongWay_L2] at hv
    rw [vc_X0_leadAlongWay_L2]
    obtain ⟨hs_1, hv⟩ := hv
    have q_2 := z_le (x := (iz f_waySteps)) (a := f_waySteps) (by first | with_reducible rfl | simp only [zl, iz_add, iz_sub, iz_mul, iz_neg]) (y := (iz v2)) (b := v2) (by first | with_reducible rfl | simp only [zl, iz_add, iz_sub, iz_mul, iz_neg]) hs_1.1 hs_1.2
    refine ⟨fun c9 => ?_, fun c9 => ?_⟩
    · have hv := hv.1 (q_2.mp c9)
      exact hKx _ f_entering hv (by first | with_reducible rfl | simp only [zl, iz_add, iz_sub, iz_mul, iz_neg])
    · have hv := hv.2 (fun z9 => c9 (q_2.mpr z9))
      obtain ⟨hi_3, hv⟩ := hv
      refine ⟨z_in (by first | with_reducible rfl | simp only [zl, iz_add, iz_sub, iz_mul, iz_neg]) hi_3 (by decide), ?_⟩
      have e_4 : ((az f_wayEntry) ((iz v2)).toNatClampNeg) = iz (f_wayEntry v2.toNat) := z_at (by first | with_reducible rfl | simp only [zl, iz_add, iz_sub, iz_mul, iz_neg]) (by first | with_reducible rfl | simp only [zl, iz_add, iz_sub, iz_mul, iz_neg]) hi_3 (by decide)
      try rw [e_4]
      obtain ⟨hi_5, hv⟩ := hv
      refine ⟨z_in (by first | with_reducible rfl | simp only [zl, iz_add, iz_sub, iz_mul, iz_neg]) hi_5 (by decide), ?_⟩
      have e_6 : ((az f_entering) ((iz (f_wayEntry v2.toNat))).toNatClampNeg) = iz (f_entering ((f_wayEntry v2.toNat)).toNat) := z_at (by first | with_reducible rfl | simp only [zl, iz_add, iz_sub, iz_mul, iz_neg]) (by first | with_reducible rfl | simp only [zl, iz_add, iz_sub, iz_mul, iz_neg]) hi_5 (by decide)
      try rw [e_6]
      obtain ⟨hi_7, hv⟩ := hv
      refine ⟨z_in (by first | with_reducible rfl | simp only [zl, iz_add, iz_sub, iz_mul, iz_neg]) hi_7 (by decide), ?_⟩
      have e_8 : ((az f_wayAhead) ((iz v2)).toNatClampNeg) = iz (f_wayAhead v2.toNat) := z_at (by first | with_reducible rfl | simp only [zl, iz_add, iz_sub, iz_mul, iz_neg]) (by first | with_reducible rfl | simp only [zl, iz_add, iz_sub, iz_mul, iz_neg]) hi_7 (by decide)
      try rw [e_8]
      obtain ⟨hs_9, hv⟩ := hv
      have q_10 := z_eq (x := (iz (f_wayAhead v2.toNat))) (a := (f_wayAhead v2.toNat)) (by first | with_reducible rfl | simp only [zl, iz_add, iz_sub, iz_mul, iz_neg]) (y := 0) (b := 0) (by first | with_reducible rfl | simp only [zl, iz_add, iz_sub, iz_mul, iz_neg]) hs_9.1 hs_9.2
      refine ⟨fun c9 => ?_, fun c9 => ?_⟩
      · have hv := hv.1 (q_10.mp c9)
        obtain ⟨hi_11, hv⟩ := hv
        refine ⟨z_in (by first | with_reducible rfl | simp only [zl, iz_add, iz_sub, iz_mul, iz_neg]) hi_11 (by decide), ?_⟩
        have e_12 : (upd (az f_entering) ((iz (f_wayEntry v2.toNat))).toNatClampNeg ((iz (f_entering ((f_wayEntry v2.toNat)).toNat)) + (-(iz f_wayWidth)))) = az (uz f_entering ((f_wayEntry v2.toNat)).toNat ((f_entering ((f_wayEntry v2.toNat)).toNat) + (-f_wayWidth))) := z_upd (by first | with_reducible rfl | simp only [zl, iz_add, iz_sub, iz_mul, iz_neg]) (by first | with_reducible rfl | simp only [zl, iz_add, iz_sub, iz_mul, iz_neg]) (by first | with_reducible rfl | simp only [zl, iz_add, iz_sub, iz_mul, iz_neg]) hi_11 (by decide)
        try rw [e_12]
        intro y_14 hy_14
        obtain ⟨x2_13, hx2_13⟩ : ∃ z : Int, z = v2 + 1 := ⟨_, rfl⟩
        have hv := hv x2_13 hx2_13
        have ey_14 : y_14 = iz x2_13 := by rw [hy_14, hx2_13]; try exact (by first | with_reducible rfl | simp only [zl, iz_add, iz_sub, iz_mul, iz_neg])
        subst ey_14
        exact ih _ _ x2_13 (uz f_entering ((f_wayEntry v2.toNat)).toNat ((f_entering ((f_wayEntry v2.toNat)).toNat) + (-f_wayWidth))) (by first | with_reducible rfl | simp only [zl, iz_add, iz_sub, iz_mul, iz_neg]) (by first | with_reducible rfl | simp only [zl, iz_add, iz_sub, iz_mul, iz_neg]) hv
      · have hv := hv.2 (fun z9 => c9 (q_10.mpr z9))
        obtain ⟨hi_15, hv⟩ := hv
        refine ⟨z_in (by first | with_reducible rfl | simp only [zl, iz_add, iz_sub, iz_mul, iz_neg]) hi_15 (by decide), ?_⟩
        have e_16 : (upd (az f_entering) ((iz (f_wayEntry v2.toNat))).toNatClampNeg ((iz (f_entering ((f_wayEntry v2.toNat)).toNat)) + (iz f_wayWidth))) = az (uz f_entering ((f_wayEntry v2.toNat)).toNat ((f_entering ((f_wayEntry v2.toNat)).toNat) + f_wayWidth)) := z_upd (by first | with_reducible rfl | simp only [zl, iz_add, iz_sub, iz_mul, iz_neg]) (by first | with_reducible rfl | simp only [zl, iz_add, iz_sub, iz_mul, iz_neg]) (by first | with_reducible rfl | simp only [zl, iz_add, iz_sub, iz_mul, iz_neg]) hi_15 (by decide)
        try rw [e_16]
        intro y_18 hy_18
        obtain ⟨x2_17, hx2_17⟩ : ∃ z : Int, z = v2 + 1 := ⟨_, rfl⟩
        have hv := hv x2_17 hx2_17
        have ey_18 : y_18 = iz x2_17 := by rw [hy_18, hx2_17]; try exact (by first | with_reducible rfl | simp only [zl, iz_add, iz_sub, iz_mul, iz_neg])
        subst ey_18
        exact ih _ _ x2_17 (uz f_entering ((f_wayEntry v2.toNat)).toNat ((f_entering ((f_wayEntry v2.toNat)).toNat) + f_wayWidth)) (by first | with_reducible rfl | simp only [zl, iz_add, iz_sub, iz_mul, iz_neg]) (by first | with_reducible rfl | simp only [zl, iz_add, iz_sub, iz_mul, iz_neg]) hv

def iv_X0_leadAlongWay (a1 : Int) (f_led : Int) (f_notLed : (Nat → Int)) (f_entering : (Nat → Int)) (f_wayEntry : (Nat → Int)) (f_wayAhead : (Nat → Int)) (f_waySteps : Int) (f_wayWidth : Int) (post : (Int × (Nat → Int) × (Nat → Int)) → Prop) : Prop :=
  (∃ n_24, iv_X0_leadAlongWay_L2 (fun f_entering_19 => ((0 ≤ a1 ∧ a1 < 6) ∧ ((0 ≤ a1 ∧ a1 < 6) ∧ post ((f_led + f_wayWidth), (uz f_notLed a1.toNat ((f_notLed a1.toNat) - f_wayWidth)), f_entering_19))))  f_wayEntry f_wayAhead f_waySteps f_wayWidth n_24 0 f_entering)

set_option maxHeartbeats 4000000 in
theorem lift_X0_leadAlongWay {a1' : Int32} {a1 : Int} {f_led' : Int32} {f_led : Int} {f_notLed' : (Nat → Int32)} {f_notLed : (Nat → Int)} {f_entering' : (Nat → Int32)} {f_entering : (Nat → Int)} {f_wayEntry' : (Nat → Int32)} {f_wayEntry : (Nat → Int)} {f_wayAhead' : (Nat → Int32)} {f_wayAhead : (Nat → Int)} {f_waySteps' : Int32} {f_waySteps : Int} {f_wayWidth' : Int32} {f_wayWidth : Int} (e_a1 : a1' = iz a1) (e_f_led : f_led' = iz f_led) (e_f_notLed : f_notLed' = az f_notLed) (e_f_entering : f_entering' = az f_entering) (e_f_wayEntry : f_wayEntry' = az f_wayEntry) (e_f_wayAhead : f_wayAhead' = az f_wayAhead) (e_f_waySteps : f_waySteps' = iz f_waySteps) (e_f_wayWidth : f_wayWidth' = iz f_wayWidth) {post0 : (Int32 × (Nat → Int32) × (Nat → Int32)) → Prop} {post : (Int × (Nat → Int) × (Nat → Int)) → Prop} (hv : iv_X0_leadAlongWay a1 f_led f_notLed f_entering f_wayEntry f_wayAhead f_waySteps f_wayWidth post) (hp : ∀ (u : Int × (Nat → Int) × (Nat → Int)) (y : Int32 × (Nat → Int32) × (Nat → Int32)), post u → y = (iz u.1, az u.2.1, az u.2.2) → post0 y) : vc_X0_leadAlongWay a1' f_led' f_notLed' f_entering' f_wayEntry' f_wayAhead' f_waySteps' f_wayWidth' post0 := by
  subst e_a1
  subst e_f_led
  subst e_f_notLed
  subst e_f_entering
  subst e_f_wayEntry
  subst e_f_wayAhead
  subst e_f_waySteps
  subst e_f_wayWidth
  rw [iv_X0_leadAlongWay] at hv
  rw [vc_X0_leadAlongWay]
  obtain ⟨n_24, hv⟩ := hv
  refine ⟨n_24, lift_X0_leadAlongWay_L2 (by first | with_reducible rfl | simp only [zl, iz_add, iz_sub, iz_mul, iz_neg]) (by first | with_reducible rfl | simp only [zl, iz_add, iz_sub, iz_mul, iz_neg]) (by first | with_reducible rfl | simp only [zl, iz_add, iz_sub, iz_mul, iz_neg]) (by first | with_reducible rfl | simp only [zl, iz_add, iz_sub, iz_mul, iz_neg]) (fun y_25 f_entering_19 hv ey_26 => ?_)  n_24 _ _ 0 f_entering (by first | with_reducible rfl | simp only [zl, iz_add, iz_sub, iz_mul, iz_neg]) (by first | with_reducible rfl | simp only [zl, iz_add, iz_sub, iz_mul, iz_neg]) hv⟩
  subst ey_26
  obtain ⟨hi_20, hv⟩ := hv
  refine ⟨z_in (by first | with_reducible rfl | simp only [zl, iz_add, iz_sub, iz_mul, iz_neg]) hi_20 (by decide), ?_⟩
  have e_21 : ((az f_notLed) ((iz a1)).toNatClampNeg) = iz (f_notLed a1.toNat) := z_at (by first | with_reducible rfl | simp only [zl, iz_add, iz_sub, iz_mul, iz_neg]) (by first | with_reducible rfl | simp only [zl, iz_add, iz_sub, iz_mul, iz_neg]) hi_20 (by decide)
  try rw [e_21]
  obtain ⟨hi_22, hv⟩ := hv
  refine ⟨z_in (by first | with_reducible rfl | simp only [zl, iz_add, iz_sub, iz_mul, iz_neg]) hi_22 (by decide), ?_⟩
  have e_23 : (upd (az f_notLed) ((iz a1)).toNatClampNeg ((iz (f_notLed a1.toNat)) - (iz f_wayWidth))) = az (uz f_notLed a1.toNat ((f_notLed a1.toNat) - f_wayWidth)) := z_upd (by first | with_reducible rfl | simp only [zl, iz_add, iz_sub, iz_mul, iz_neg]) (by first | with_reducible rfl | simp only [zl, iz_add, iz_sub, iz_mul, iz_neg]) (by first | with_reducible rfl | simp only [zl, iz_add, iz_sub, iz_mul, iz_neg]) hi_22 (by decide)
  try rw [e_23]
  exact hp _ _ hv (by first | with_reducible rfl | simp only [zl, iz_add, iz_sub, iz_mul, iz_neg])

def iv_X0_leadBy_L2 (K : Int → (Nat → Int) → (Nat → Int) → (Nat → Int) → (Nat → Int) → (Nat → Int) → (Nat → Int) → Int → Int → Prop) (post : Int → (Int × (Nat → Int) × (Nat → Int) × (Nat → Int) × (Nat → Int) × (Nat → Int) × (Nat → Int) × Int × Int) → Prop) (b1 : Int) (f_lanes : Int) (f_from : (Nat → Int)) (f_to : (Nat → Int)) (f_width : (Nat → Int)) (f_length : (Nat → Int)) (f_shut : (Nat → Int)) (f_safeRooms : Int) (f_people : Int) : Nat → Int → Int → (Nat → Int) → (Nat → Int) → (Nat → Int) → (Nat → Int) → (Nat → Int) → (Nat → Int) → Int → Int → Prop
  | 0, _, _, _, _, _, _, _, _, _, _ => False
  | n + 1, v2, f_led, f_notLed, f_entering, f_latest, f_step, f_wayEntry, f_wayAhead, f_waySteps, f_wayWidth =>
    ((sm 180 ∧ sm v2) ∧ ((180 < v2 → K f_led f_notLed f_entering f_latest f_step f_wayEntry f_wayAhead f_waySteps f_wayWidth) ∧ (¬ 180 < v2 → ((sm f_people ∧ sm f_led) ∧ ((f_people ≤ f_led → K f_led f_notLed f_entering f_latest f_step f_wayEntry f_wayAhead f_waySteps f_wayWidth) ∧ (¬ f_people ≤ f_led → (iv_X0_findWayOut b1 f_lanes f_from f_to f_width f_length f_shut f_safeRooms f_notLed f_entering f_latest f_step (fun (r_6 : Int) (u_5 : (Nat → Int) × (Nat → Int)) => ((sm 0 ∧ sm r_6) ∧ ((0 ≤ r_6 → (iv_X0_traceWay r_6 f_lanes f_from f_to f_width f_length f_safeRooms f_notLed f_entering u_5.2 f_wayEntry f_wayAhead f_waySteps f_wayWidth (fun (u_13 : (Nat → Int) × (Nat → Int) × Int × Int) => ((sm 0 ∧ sm u_13.2.2.2) ∧ ((0 < u_13.2.2.2 → (iv_X0_leadAlongWay r_6 f_led f_notLed f_entering u_13.1 u_13.2.1 u_13.2.2.1 u_13.2.2.2 (fun (u_20 : Int × (Nat → Int) × (Nat → Int)) => (∀ x2_25 : Int, x2_25 = v2 + 1 → iv_X0_leadBy_L2 K post b1 f_lanes f_from f_to f_width f_length f_shut f_safeRooms f_people n x2_25 u_20.1 u_20.2.1 u_20.2.2 u_5.1 u_5.2 u_13.1 u_13.2.1 u_13.2.2.1 u_13.2.2.2)))) ∧ (¬ 0 < u_13.2.2.2 → post f_led (f_led, f_notLed, f_entering, u_5.1, u_5.2, u_13.1, u_13.2.1, u_13.2.2.1, u_13.2.2.2))))))) ∧ (¬ 0 ≤ r_6 → post f_led (f_led, f_notLed, f_entering, u_5.1, u_5.2, f_wayEntry, f_wayAhead, f_waySteps, f_wayWidth))))))))))))

set_option maxHeartbeats 4000000 in
theorem lift_X0_leadBy_L2 {K0 : Int32 → (Nat → Int32) → (Nat → Int32) → (Nat → Int32) → (Nat → Int32) → (Nat → Int32) → (Nat → Int32) → Int32 → Int32 → Prop} {K : Int → (Nat → Int) → (Nat → Int) → (Nat → Int) → (Nat → Int) → (Nat → Int) → (Nat → Int) → Int → Int → Prop} {post0 : Int32 → (Int32 × (Nat → Int32) × (Nat → Int32) × (Nat → Int32) × (Nat → Int32) × (Nat → Int32) × (Nat → Int32) × Int32 × Int32) → Prop} {post : Int → (Int × (Nat → Int) × (Nat → Int) × (Nat → Int) × (Nat → Int) × (Nat → Int) × (Nat → Int) × Int × Int) → Prop} {b1' : Int32} {b1 : Int} {f_lanes' : Int32} {f_lanes : Int} {f_from' : (Nat → Int32)} {f_from : (Nat → Int)} {f_to' : (Nat → Int32)} {f_to : (Nat → Int)} {f_width' : (Nat → Int32)} {f_width : (Nat → Int)} {f_length' : (Nat → Int32)} {f_length : (Nat → Int)} {f_shut' : (Nat → Int32)} {f_shut : (Nat → Int)} {f_safeRooms' : Int32} {f_safeRooms : Int} {f_people' : Int32} {f_people : Int} (e_b1 : b1' = iz b1) (e_f_lanes : f_lanes' = iz f_lanes) (e_f_from : f_from' = az f_from) (e_f_to : f_to' = az f_to) (e_f_width : f_width' = az f_width) (e_f_length : f_length' = az f_length) (e_f_shut : f_shut' = az f_shut) (e_f_safeRooms : f_safeRooms' = iz f_safeRooms) (e_f_people : f_people' = iz f_people)  (hKx : ∀ (k_f_led' : Int32) (k_f_notLed' : (Nat → Int32)) (k_f_entering' : (Nat → Int32)) (k_f_latest' : (Nat → Int32)) (k_f_step' : (Nat → Int32)) (k_f_wayEntry' : (Nat → Int32)) (k_f_wayAhead' : (Nat → Int32)) (k_f_waySteps' : Int32) (k_f_wayWidth' : Int32) (k_f_led : Int) (k_f_notLed : (Nat → Int)) (k_f_entering : (Nat → Int)) (k_f_latest : (Nat → Int)) (k_f_step : (Nat → Int)) (k_f_wayEntry : (Nat → Int)) (k_f_wayAhead : (Nat → Int)) (k_f_waySteps : Int) (k_f_wayWidth : Int), K k_f_led k_f_notLed k_f_entering k_f_latest k_f_step k_f_wayEntry k_f_wayAhead k_f_waySteps k_f_wayWidth → k_f_led' = iz k_f_led → k_f_notLed' = az k_f_notLed → k_f_entering' = az k_f_entering → k_f_latest' = az k_f_latest → k_f_step' = az k_f_step → k_f_wayEntry' = az k_f_wayEntry → k_f_wayAhead' = az k_f_wayAhead → k_f_waySteps' = iz k_f_waySteps → k_f_wayWidth' = iz k_f_wayWidth →  K0 k_f_led' k_f_notLed' k_f_entering' k_f_latest' k_f_step' k_f_wayEntry' k_f_wayAhead' k_f_waySteps' k_f_wayWidth') (hp : ∀ (r : Int) (u : Int × (Nat → Int) × (Nat → Int) × (Nat → Int) × (Nat → Int) × (Nat → Int) × (Nat → Int) × Int × Int) (x : Int32) (y : Int32 × (Nat → Int32) × (Nat → Int32) × (Nat → Int32) × (Nat → Int32) × (Nat → Int32) × (Nat → Int32) × Int32 × Int32), post r u → x = iz r → y = (iz u.1, az u.2.1, az u.2.2.1, az u.2.2.2.1, az u.2.2.2.2.1, az u.2.2.2.2.2.1, az u.2.2.2.2.2.2.1, iz u.2.2.2.2.2.2.2.1, iz u.2.2.2.2.2.2.2.2) → post0 x y) :
    ∀ (n : Nat) (v2' : Int32) (f_led' : Int32) (f_notLed' : (Nat → Int32)) (f_entering' : (Nat → Int32)) (f_latest' : (Nat → Int32)) (f_step' : (Nat → Int32)) (f_wayEntry' : (Nat → Int32)) (f_wayAhead' : (Nat → Int32)) (f_waySteps' : Int32) (f_wayWidth' : Int32) (v2 : Int) (f_led : Int) (f_notLed : (Nat → Int)) (f_entering : (Nat → Int)) (f_latest : (Nat → Int)) (f_step : (Nat → Int)) (f_wayEntry : (Nat → Int)) (f_wayAhead : (Nat → Int)) (f_waySteps : Int) (f_wayWidth : Int) (e_v2 : v2' = iz v2) (e_f_led : f_led' = iz f_led) (e_f_notLed : f_notLed' = az f_notLed) (e_f_entering : f_entering' = az f_entering) (e_f_latest : f_latest' = az f_latest) (e_f_step : f_step' = az f_step) (e_f_wayEntry : f_wayEntry' = az f_wayEntry) (e_f_wayAhead : f_wayAhead' = az f_wayAhead) (e_f_waySteps : f_waySteps' = iz f_waySteps) (e_f_wayWidth : f_wayWidth' = iz f_wayWidth), iv_X0_leadBy_L2 K post b1 f_lanes f_from f_to f_width f_length f_shut f_safeRooms f_people n v2 f_led f_notLed f_entering f_latest f_step f_wayEntry f_wayAhead f_waySteps f_wayWidth → vc_X0_leadBy_L2 K0 post0 b1' f_lanes' f_from' f_to' f_width' f_length' f_shut' f_safeRooms' f_people' n v2' f_led' f_notLed' f_entering' f_latest' f_step' f_wayEntry' f_wayAhead' f_waySteps' f_wayWidth' := by
  subst e_b1
  subst e_f_lanes
  subst e_f_from
  subst e_f_to
  subst e_f_width
  subst e_f_length
  subst e_f_shut
  subst e_f_safeRooms
  subst e_f_people
  intro n
  induction n with
  | zero =>
    intro v2' f_led' f_notLed' f_entering' f_latest' f_step' f_wayEntry' f_wayAhead' f_waySteps' f_wayWidth' v2 f_led f_notLed f_entering f_latest f_step f_wayEntry f_wayAhead f_waySteps f_wayWidth e_v2 e_f_led e_f_notLed e_f_entering e_f_latest e_f_step e_f_wayEntry e_f_wayAhead e_f_waySteps e_f_wayWidth hv
    exact False.elim hv
  | succ n ih =>
    intro v2' f_led' f_notLed' f_entering' f_latest' f_step' f_wayEntry' f_wayAhead' f_waySteps' f_wayWidth' v2 f_led f_notLed f_entering f_latest f_step f_wayEntry f_wayAhead f_waySteps f_wayWidth e_v2 e_f_led e_f_notLed e_f_entering e_f_latest e_f_step e_f_wayEntry e_f_wayAhead e_f_waySteps e_f_wayWidth hv
    subst e_v2
    subst e_f_led
    subst e_f_notLed
    subst e_f_entering
    subst e_f_latest
    subst e_f_step
    subst e_f_wayEntry
    subst e_f_wayAhead
    subst e_f_waySteps
    subst e_f_wayWidth
    rw [iv_X0_leadBy_L2] at hv
    rw [vc_X0_leadBy_L2]
    obtain ⟨hs_1, hv⟩ := hv
    have q_2 := z_lt (x := 180) (a := 180) (by first | with_reducible rfl | simp only [zl, iz_add, iz_sub, iz_mul, iz_neg]) (y := (iz v2)) (b := v2) (by first | with_reducible rfl | simp only [zl, iz_add, iz_sub, iz_mul, iz_neg]) hs_1.1 hs_1.2
    refine ⟨fun c9 => ?_, fun c9 => ?_⟩
    · have hv := hv.1 (q_2.mp c9)
      exact hKx _ _ _ _ _ _ _ _ _ f_led f_notLed f_entering f_latest f_step f_wayEntry f_wayAhead f_waySteps f_wayWidth hv (by first | with_reducible rfl | simp only [zl, iz_add, iz_sub, iz_mul, iz_neg]) (by first | with_reducible rfl | simp only [zl, iz_add, iz_sub, iz_mul, iz_neg]) (by first | with_reducible rfl | simp only [zl, iz_add, iz_sub, iz_mul, iz_neg]) (by first | with_reducible rfl | simp only [zl, iz_add, iz_sub, iz_mul, iz_neg]) (by first | with_reducible rfl | simp only [zl, iz_add, iz_sub, iz_mul, iz_neg]) (by first | with_reducible rfl | simp only [zl, iz_add, iz_sub, iz_mul, iz_neg]) (by first | with_reducible rfl | simp only [zl, iz_add, iz_sub, iz_mul, iz_neg]) (by first | with_reducible rfl | simp only [zl, iz_add, iz_sub, iz_mul, iz_neg]) (by first | with_reducible rfl | simp only [zl, iz_add, iz_sub, iz_mul, iz_neg])
    · have hv := hv.2 (fun z9 => c9 (q_2.mpr z9))
      obtain ⟨hs_3, hv⟩ := hv
      have q_4 := z_le (x := (iz f_people)) (a := f_people) (by first | with_reducible rfl | simp only [zl, iz_add, iz_sub, iz_mul, iz_neg]) (y := (iz f_led)) (b := f_led) (by first | with_reducible rfl | simp only [zl, iz_add, iz_sub, iz_mul, iz_neg]) hs_3.1 hs_3.2
      refine ⟨fun c9 => ?_, fun c9 => ?_⟩
      · have hv := hv.1 (q_4.mp c9)
        exact hKx _ _ _ _ _ _ _ _ _ f_led f_notLed f_entering f_latest f_step f_wayEntry f_wayAhead f_waySteps f_wayWidth hv (by first | with_reducible rfl | simp only [zl, iz_add, iz_sub, iz_mul, iz_neg]) (by first | with_reducible rfl | simp only [zl, iz_add, iz_sub, iz_mul, iz_neg]) (by first | with_reducible rfl | simp only [zl, iz_add, iz_sub, iz_mul, iz_neg]) (by first | with_reducible rfl | simp only [zl, iz_add, iz_sub, iz_mul, iz_neg]) (by first | with_reducible rfl | simp only [zl, iz_add, iz_sub, iz_mul, iz_neg]) (by first | with_reducible rfl | simp only [zl, iz_add, iz_sub, iz_mul, iz_neg]) (by first | with_reducible rfl | simp only [zl, iz_add, iz_sub, iz_mul, iz_neg]) (by first | with_reducible rfl | simp only [zl, iz_add, iz_sub, iz_mul, iz_neg]) (by first | with_reducible rfl | simp only [zl, iz_add, iz_sub, iz_mul, iz_neg])
      · have hv := hv.2 (fun z9 => c9 (q_4.mpr z9))
        refine lift_X0_findWayOut (by first | with_reducible rfl | simp only [zl, iz_add, iz_sub, iz_mul, iz_neg]) (by first | with_reducible rfl | simp only [zl, iz_add, iz_sub, iz_mul, iz_neg]) (by first | with_reducible rfl | simp only [zl, iz_add, iz_sub, iz_mul, iz_neg]) (by first | with_reducible rfl | simp only [zl, iz_add, iz_sub, iz_mul, iz_neg]) (by first | with_reducible rfl | simp only [zl, iz_add, iz_sub, iz_mul, iz_neg]) (by first | with_reducible rfl | simp only [zl, iz_add, iz_sub, iz_mul, iz_neg]) (by first | with_reducible rfl | simp only [zl, iz_add, iz_sub, iz_mul, iz_neg]) (by first | with_reducible rfl | simp only [zl, iz_add, iz_sub, iz_mul, iz_neg]) (by first | with_reducible rfl | simp only [zl, iz_add, iz_sub, iz_mul, iz_neg]) (by first | with_reducible rfl | simp only [zl, iz_add, iz_sub, iz_mul, iz_neg]) (by first | with_reducible rfl | simp only [zl, iz_add, iz_sub, iz_mul, iz_neg]) (by first | with_reducible rfl | simp only [zl, iz_add, iz_sub, iz_mul, iz_neg]) hv (fun r_6 u_5 y_7 y_8 hv er_9 eu_10 => ?_)
        subst er_9; subst eu_10
        try dsimp only
        obtain ⟨hs_11, hv⟩ := hv
        have q_12 := z_le (x := 0) (a := 0) (by first | with_reducible rfl | simp only [zl, iz_add, iz_sub, iz_mul, iz_neg]) (y := (iz r_6)) (b := r_6) (by first | with_reducible rfl | simp only [zl, iz_add, iz_sub, iz_mul, iz_neg]) hs_11.1 hs_11.2
        refine ⟨fun c9 => ?_, fun c9 => ?_⟩
        · have hv := hv.1 (q_12.mp c9)
          refine lift_X0_traceWay (by first | with_reducible rfl | simp only [zl, iz_add, iz_sub, iz_mul, iz_neg]) (by first | with_reducible rfl | simp only [zl, iz_add, iz_sub, iz_mul, iz_neg]) (by first | with_reducible rfl | simp only [zl, iz_add, iz_sub, iz_mul, iz_neg]) (by first | with_reducible rfl | simp only [zl, iz_add, iz_sub, iz_mul, iz_neg]) (by first | with_reducible rfl | simp only [zl, iz_add, iz_sub, iz_mul, iz_neg]) (by first | with_reducible rfl | simp only [zl, iz_add, iz_sub, iz_mul, iz_neg]) (by first | with_reducible rfl | simp only [zl, iz_add, iz_sub, iz_mul, iz_neg]) (by first | with_reducible rfl | simp only [zl, iz_add, iz_sub, iz_mul, iz_neg]) (by first | with_reducible rfl | simp only [zl, iz_add, iz_sub, iz_mul, iz_neg]) (by first | with_reducible rfl | simp only [zl, iz_add, iz_sub, iz_mul, iz_neg]) (by first | with_reducible rfl | simp only [zl, iz_add, iz_sub, iz_mul, iz_neg]) (by first | with_reducible rfl | simp only [zl, iz_add, iz_sub, iz_mul, iz_neg]) (by first | with_reducible rfl | simp only [zl, iz_add, iz_sub, iz_mul, iz_neg]) (by first | with_reducible rfl | simp only [zl, iz_add, iz_sub, iz_mul, iz_neg]) hv (fun u_13 y_15 hv eu_17 => ?_)
          subst eu_17
          try dsimp only
          obtain ⟨hs_18, hv⟩ := hv
          have q_19 := z_lt (x := 0) (a := 0) (by first | with_reducible rfl | simp only [zl, iz_add, iz_sub, iz_mul, iz_neg]) (y := (iz u_13.2.2.2)) (b := u_13.2.2.2) (by first | with_reducible rfl | simp only [zl, iz_add, iz_sub, iz_mul, iz_neg]) hs_18.1 hs_18.2
          refine ⟨fun c9 => ?_, fun c9 => ?_⟩
          · have hv := hv.1 (q_19.mp c9)
            refine lift_X0_leadAlongWay (by first | with_reducible rfl | simp only [zl, iz_add, iz_sub, iz_mul, iz_neg]) (by first | with_reducible rfl | simp only [zl, iz_add, iz_sub, iz_mul, iz_neg]) (by first | with_reducible rfl | simp only [zl, iz_add, iz_sub, iz_mul, iz_neg]) (by first | with_reducible rfl | simp only [zl, iz_add, iz_sub, iz_mul, iz_neg]) (by first | with_reducible rfl | simp only [zl, iz_add, iz_sub, iz_mul, iz_neg]) (by first | with_reducible rfl | simp only [zl, iz_add, iz_sub, iz_mul, iz_neg]) (by first | with_reducible rfl | simp only [zl, iz_add, iz_sub, iz_mul, iz_neg]) (by first | with_reducible rfl | simp only [zl, iz_add, iz_sub, iz_mul, iz_neg]) hv (fun u_20 y_22 hv eu_24 => ?_)
            subst eu_24
            try dsimp only
            intro y_26 hy_26
            obtain ⟨x2_25, hx2_25⟩ : ∃ z : Int, z = v2 + 1 := ⟨_, rfl⟩
            have hv := hv x2_25 hx2_25
            have ey_26 : y_26 = iz x2_25 := by rw [hy_26, hx2_25]; try exact (by first | with_reducible rfl | simp only [zl, iz_add, iz_sub, iz_mul, iz_neg])
            subst ey_26
            exact ih _ _ _ _ _ _ _ _ _ _ x2_25 u_20.1 u_20.2.1 u_20.2.2 u_5.1 u_5.2 u_13.1 u_13.2.1 u_13.2.2.1 u_13.2.2.2 (by first | with_reducible rfl | simp only [zl, iz_add, iz_sub, iz_mul, iz_neg]) (by first | with_reducible rfl | simp only [zl, iz_add, iz_sub, iz_mul, iz_neg]) (by first | with_reducible rfl | simp only [zl, iz_add, iz_sub, iz_mul, iz_neg]) (by first | with_reducible rfl | simp only [zl, iz_add, iz_sub, iz_mul, iz_neg]) (by first | with_reducible rfl | simp only [zl, iz_add, iz_sub, iz_mul, iz_neg]) (by first | with_reducible rfl | simp only [zl, iz_add, iz_sub, iz_mul, iz_neg]) (by first | with_reducible rfl | simp only [zl, iz_add, iz_sub, iz_mul, iz_neg]) (by first | with_reducible rfl | simp only [zl, iz_add, iz_sub, iz_mul, iz_neg]) (by first | with_reducible rfl | simp only [zl, iz_add, iz_sub, iz_mul, iz_neg]) (by first | with_reducible rfl | simp only [zl, iz_add, iz_sub, iz_mul, iz_neg]) hv
          · have hv := hv.2 (fun z9 => c9 (q_19.mpr z9))
            exact hp _ _ _ _ hv (by first | with_reducible rfl | simp only [zl, iz_add, iz_sub, iz_mul, iz_neg]) (by first | with_reducible rfl | simp only [zl, iz_add, iz_sub, iz_mul, iz_neg])
        · have hv := hv.2 (fun z9 => c9 (q_12.mpr z9))
          exact hp _ _ _ _ hv (by first | with_reducible rfl | simp only [zl, iz_add, iz_sub, iz_mul, iz_neg]) (by first | with_reducible rfl | simp only [zl, iz_add, iz_sub, iz_mul, iz_neg])

def iv_X0_leadBy (a1 : Int) (f_lanes : Int) (f_from : (Nat → Int)) (f_to : (Nat → Int)) (f_width : (Nat → Int)) (f_length : (Nat → Int)) (f_shut : (Nat → Int)) (f_safeRooms : Int) (f_people : Int) (f_led : Int) (f_notLed : (Nat → Int)) (f_entering : (Nat → Int)) (f_latest : (Nat → Int)) (f_step : (Nat → Int)) (f_wayEntry : (Nat → Int)) (f_wayAhead : (Nat → Int)) (f_waySteps : Int) (f_wayWidth : Int) (post : Int → (Int × (Nat → Int) × (Nat → Int) × (Nat → Int) × (Nat → Int) × (Nat → Int) × (Nat → Int) × Int × Int) → Prop) : Prop :=
  (∃ n_36, iv_X0_leadBy_L2 (fun f_led_27 f_notLed_28 f_entering_29 f_latest_30 f_step_31 f_wayEntry_32 f_wayAhead_33 f_waySteps_34 f_wayWidth_35 => post f_led_27 (f_led_27, f_notLed_28, f_entering_29, f_latest_30, f_step_31, f_wayEntry_32, f_wayAhead_33, f_waySteps_34, f_wayWidth_35)) post a1 f_lanes f_from f_to f_width f_length f_shut f_safeRooms f_people n_36 0 f_led f_notLed f_entering f_latest f_step f_wayEntry f_wayAhead f_waySteps f_wayWidth)

set_option maxHeartbeats 4000000 in
theorem lift_X0_leadBy {a1' : Int32} {a1 : Int} {f_lanes' : Int32} {f_lanes : Int} {f_from' : (Nat → Int32)} {f_from : (Nat → Int)} {f_to' : (Nat → Int32)} {f_to : (Nat → Int)} {f_width' : (Nat → Int32)} {f_width : (Nat → Int)} {f_length' : (Nat → Int32)} {f_length : (Nat → Int)} {f_shut' : (Nat → Int32)} {f_shut : (Nat → Int)} {f_safeRooms' : Int32} {f_safeRooms : Int} {f_people' : Int32} {f_people : Int} {f_led' : Int32} {f_led : Int} {f_notLed' : (Nat → Int32)} {f_notLed : (Nat → Int)} {f_entering' : (Nat → Int32)} {f_entering : (Nat → Int)} {f_latest' : (Nat → Int32)} {f_latest : (Nat → Int)} {f_step' : (Nat → Int32)} {f_step : (Nat → Int)} {f_wayEntry' : (Nat → Int32)} {f_wayEntry : (Nat → Int)} {f_wayAhead' : (Nat → Int32)} {f_wayAhead : (Nat → Int)} {f_waySteps' : Int32} {f_waySteps : Int} {f_wayWidth' : Int32} {f_wayWidth : Int} (e_a1 : a1' = iz a1) (e_f_lanes : f_lanes' = iz f_lanes) (e_f_from : f_from' = az f_from) (e_f_to : f_to' = az f_to) (e_f_width : f_width' = az f_width) (e_f_length : f_length' = az f_length) (e_f_shut : f_shut' = az f_shut) (e_f_safeRooms : f_safeRooms' = iz f_safeRooms) (e_f_people : f_people' = iz f_people) (e_f_led : f_led' = iz f_led) (e_f_notLed : f_notLed' = az f_notLed) (e_f_entering : f_entering' = az f_entering) (e_f_latest : f_latest' = az f_latest) (e_f_step : f_step' = az f_step) (e_f_wayEntry : f_wayEntry' = az f_wayEntry) (e_f_wayAhead : f_wayAhead' = az f_wayAhead) (e_f_waySteps : f_waySteps' = iz f_waySteps) (e_f_wayWidth : f_wayWidth' = iz f_wayWidth) {post0 : Int32 → (Int32 × (Nat → Int32) × (Nat → Int32) × (Nat → Int32) × (Nat → Int32) × (Nat → Int32) × (Nat → Int32) × Int32 × Int32) → Prop} {post : Int → (Int × (Nat → Int) × (Nat → Int) × (Nat → Int) × (Nat → Int) × (Nat → Int) × (Nat → Int) × Int × Int) → Prop} (hv : iv_X0_leadBy a1 f_lanes f_from f_to f_width f_length f_shut f_safeRooms f_people f_led f_notLed f_entering f_latest f_step f_wayEntry f_wayAhead f_waySteps f_wayWidth post) (hp : ∀ (r : Int) (u : Int × (Nat → Int) × (Nat → Int) × (Nat → Int) × (Nat → Int) × (Nat → Int) × (Nat → Int) × Int × Int) (x : Int32) (y : Int32 × (Nat → Int32) × (Nat → Int32) × (Nat → Int32) × (Nat → Int32) × (Nat → Int32) × (Nat → Int32) × Int32 × Int32), post r u → x = iz r → y = (iz u.1, az u.2.1, az u.2.2.1, az u.2.2.2.1, az u.2.2.2.2.1, az u.2.2.2.2.2.1, az u.2.2.2.2.2.2.1, iz u.2.2.2.2.2.2.2.1, iz u.2.2.2.2.2.2.2.2) → post0 x y) : vc_X0_leadBy a1' f_lanes' f_from' f_to' f_width' f_length' f_shut' f_safeRooms' f_people' f_led' f_notLed' f_entering' f_latest' f_step' f_wayEntry' f_wayAhead' f_waySteps' f_wayWidth' post0 := by
  subst e_a1
  subst e_f_lanes
  subst e_f_from
  subst e_f_to
  subst e_f_width
  subst e_f_length
  subst e_f_shut
  subst e_f_safeRooms
  subst e_f_people
  subst e_f_led
  subst e_f_notLed
  subst e_f_entering
  subst e_f_latest
  subst e_f_step
  subst e_f_wayEntry
  subst e_f_wayAhead
  subst e_f_waySteps
  subst e_f_wayWidth
  rw [iv_X0_leadBy] at hv
  rw [vc_X0_leadBy]
  obtain ⟨n_36, hv⟩ := hv
  refine ⟨n_36, lift_X0_leadBy_L2 (by first | with_reducible rfl | simp only [zl, iz_add, iz_sub, iz_mul, iz_neg]) (by first | with_reducible rfl | simp only [zl, iz_add, iz_sub, iz_mul, iz_neg]) (by first | with_reducible rfl | simp only [zl, iz_add, iz_sub, iz_mul, iz_neg]) (by first | with_reducible rfl | simp only [zl, iz_add, iz_sub, iz_mul, iz_neg]) (by first | with_reducible rfl | simp only [zl, iz_add, iz_sub, iz_mul, iz_neg]) (by first | with_reducible rfl | simp only [zl, iz_add, iz_sub, iz_mul, iz_neg]) (by first | with_reducible rfl | simp only [zl, iz_add, iz_sub, iz_mul, iz_neg]) (by first | with_reducible rfl | simp only [zl, iz_add, iz_sub, iz_mul, iz_neg]) (by first | with_reducible rfl | simp only [zl, iz_add, iz_sub, iz_mul, iz_neg]) (fun y_37 y_38 y_39 y_40 y_41 y_42 y_43 y_44 y_45 f_led_27 f_notLed_28 f_entering_29 f_latest_30 f_step_31 f_wayEntry_32 f_wayAhead_33 f_waySteps_34 f_wayWidth_35 hv ey_46 ey_47 ey_48 ey_49 ey_50 ey_51 ey_52 ey_53 ey_54 => ?_) hp n_36 _ _ _ _ _ _ _ _ _ _ 0 f_led f_notLed f_entering f_latest f_step f_wayEntry f_wayAhead f_waySteps f_wayWidth (by first | with_reducible rfl | simp only [zl, iz_add, iz_sub, iz_mul, iz_neg]) (by first | with_reducible rfl | simp only [zl, iz_add, iz_sub, iz_mul, iz_neg]) (by first | with_reducible rfl | simp only [zl, iz_add, iz_sub, iz_mul, iz_neg]) (by first | with_reducible rfl | simp only [zl, iz_add, iz_sub, iz_mul, iz_neg]) (by first | with_reducible rfl | simp only [zl, iz_add, iz_sub, iz_mul, iz_neg]) (by first | with_reducible rfl | simp only [zl, iz_add, iz_sub, iz_mul, iz_neg]) (by first | with_reducible rfl | simp only [zl, iz_add, iz_sub, iz_mul, iz_neg]) (by first | with_reducible rfl | simp only [zl, iz_add, iz_sub, iz_mul, iz_neg]) (by first | with_reducible rfl | simp only [zl, iz_add, iz_sub, iz_mul, iz_neg]) (by first | with_reducible rfl | simp only [zl, iz_add, iz_sub, iz_mul, iz_neg]) hv⟩
  subst ey_46
  subst ey_47
  subst ey_48
  subst ey_49
  subst ey_50
  subst ey_51
  subst ey_52
  subst ey_53
  subst ey_54
  exact hp _ _ _ _ hv (by first | with_reducible rfl | simp only [zl, iz_add, iz_sub, iz_mul, iz_neg]) (by first | with_reducible rfl | simp only [zl, iz_add, iz_sub, iz_mul, iz_neg])

def iv_X0_leadsAllBy (a1 : Int) (f_lanes : Int) (f_from : (Nat → Int)) (f_to : (Nat → Int)) (f_width : (Nat → Int)) (f_length : (Nat → Int)) (f_shut : (Nat → Int)) (f_safeRooms : Int) (f_people : Int) (f_led : Int) (f_notLed : (Nat → Int)) (f_entering : (Nat → Int)) (f_latest : (Nat → Int)) (f_step : (Nat → Int)) (f_wayEntry : (Nat → Int)) (f_wayAhead : (Nat → Int)) (f_waySteps : Int) (f_wayWidth : Int) (post : Int → (Int × (Nat → Int) × (Nat → Int) × (Nat → Int) × (Nat → Int) × (Nat → Int) × (Nat → Int) × Int × Int) → Prop) : Prop :=
  (iv_X0_leadBy a1 f_lanes f_from f_to f_width f_length f_shut f_safeRooms f_people f_led f_notLed f_entering f_latest f_step f_wayEntry f_wayAhead f_waySteps f_wayWidth (fun (r_2 : Int) (u_1 : Int × (Nat → Int) × (Nat → Int) × (Nat → Int) × (Nat → Int) × (Nat → Int) × (Nat → Int) × Int × Int) => ((sm r_2 ∧ sm f_people) ∧ ((¬ r_2 = f_people → post 0 (u_1.1, u_1.2.1, u_1.2.2.1, u_1.2.2.2.1, u_1.2.2.2.2.1, u_1.2.2.2.2.2.1, u_1.2.2.2.2.2.2.1, u_1.2.2.2.2.2.2.2.1, u_1.2.2.2.2.2.2.2.2)) ∧ (r_2 = f_people → post 1 (u_1.1, u_1.2.1, u_1.2.2.1, u_1.2.2.2.1, u_1.2.2.2.2.1, u_1.2.2.2.2.2.1, u_1.2.2.2.2.2.2.1, u_1.2.2.2.2.2.2.2.1, u_1.2.2.2.2.2.2.2.2))))))

set_option maxHeartbeats 4000000 in
theorem lift_X0_leadsAllBy {a1' : Int32} {a1 : Int} {f_lanes' : Int32} {f_lanes : Int} {f_from' : (Nat → Int32)} {f_from : (Nat → Int)} {f_to' : (Nat → Int32)} {f_to : (Nat → Int)} {f_width' : (Nat → Int32)} {f_width : (Nat → Int)} {f_length' : (Nat → Int32)} {f_length : (Nat → Int)} {f_shut' : (Nat → Int32)} {f_shut : (Nat → Int)} {f_safeRooms' : Int32} {f_safeRooms : Int} {f_people' : Int32} {f_people : Int} {f_led' : Int32} {f_led : Int} {f_notLed' : (Nat → Int32)} {f_notLed : (Nat → Int)} {f_entering' : (Nat → Int32)} {f_entering : (Nat → Int)} {f_latest' : (Nat → Int32)} {f_latest : (Nat → Int)} {f_step' : (Nat → Int32)} {f_step : (Nat → Int)} {f_wayEntry' : (Nat → Int32)} {f_wayEntry : (Nat → Int)} {f_wayAhead' : (Nat → Int32)} {f_wayAhead : (Nat → Int)} {f_waySteps' : Int32} {f_waySteps : Int} {f_wayWidth' : Int32} {f_wayWidth : Int} (e_a1 : a1' = iz a1) (e_f_lanes : f_lanes' = iz f_lanes) (e_f_from : f_from' = az f_from) (e_f_to : f_to' = az f_to) (e_f_width : f_width' = az f_width) (e_f_length : f_length' = az f_length) (e_f_shut : f_shut' = az f_shut) (e_f_safeRooms : f_safeRooms' = iz f_safeRooms) (e_f_people : f_people' = iz f_people) (e_f_led : f_led' = iz f_led) (e_f_notLed : f_notLed' = az f_notLed) (e_f_entering : f_entering' = az f_entering) (e_f_latest : f_latest' = az f_latest) (e_f_step : f_step' = az f_step) (e_f_wayEntry : f_wayEntry' = az f_wayEntry) (e_f_wayAhead : f_wayAhead' = az f_wayAhead) (e_f_waySteps : f_waySteps' = iz f_waySteps) (e_f_wayWidth : f_wayWidth' = iz f_wayWidth) {post0 : Int32 → (Int32 × (Nat → Int32) × (Nat → Int32) × (Nat → Int32) × (Nat → Int32) × (Nat → Int32) × (Nat → Int32) × Int32 × Int32) → Prop} {post : Int → (Int × (Nat → Int) × (Nat → Int) × (Nat → Int) × (Nat → Int) × (Nat → Int) × (Nat → Int) × Int × Int) → Prop} (hv : iv_X0_leadsAllBy a1 f_lanes f_from f_to f_width f_length f_shut f_safeRooms f_people f_led f_notLed f_entering f_latest f_step f_wayEntry f_wayAhead f_waySteps f_wayWidth post) (hp : ∀ (r : Int) (u : Int × (Nat → Int) × (Nat → Int) × (Nat → Int) × (Nat → Int) × (Nat → Int) × (Nat → Int) × Int × Int) (x : Int32) (y : Int32 × (Nat → Int32) × (Nat → Int32) × (Nat → Int32) × (Nat → Int32) × (Nat → Int32) × (Nat → Int32) × Int32 × Int32), post r u → x = iz r → y = (iz u.1, az u.2.1, az u.2.2.1, az u.2.2.2.1, az u.2.2.2.2.1, az u.2.2.2.2.2.1, az u.2.2.2.2.2.2.1, iz u.2.2.2.2.2.2.2.1, iz u.2.2.2.2.2.2.2.2) → post0 x y) : vc_X0_leadsAllBy a1' f_lanes' f_from' f_to' f_width' f_length' f_shut' f_safeRooms' f_people' f_led' f_notLed' f_entering' f_latest' f_step' f_wayEntry' f_wayAhead' f_waySteps' f_wayWidth' post0 := by
  subst e_a1
  subst e_f_lanes
  subst e_f_from
  subst e_f_to
  subst e_f_width
  subst e_f_length
  subst e_f_shut
  subst e_f_safeRooms
  subst e_f_people
  subst e_f_led
  subst e_f_notLed
  subst e_f_entering
  subst e_f_latest
  subst e_f_step
  subst e_f_wayEntry
  subst e_f_wayAhead
  subst e_f_waySteps
  subst e_f_wayWidth
  rw [iv_X0_leadsAllBy] at hv
  rw [vc_X0_leadsAllBy]
  refine lift_X0_leadBy (by first | with_reducible rfl | simp only [zl, iz_add, iz_sub, iz_mul, iz_neg]) (by first | with_reducible rfl | simp only [zl, iz_add, iz_sub, iz_mul, iz_neg]) (by first | with_reducible rfl | simp only [zl, iz_add, iz_sub, iz_mul, iz_neg]) (by first | with_reducible rfl | simp only [zl, iz_add, iz_sub, iz_mul, iz_neg]) (by first | with_reducible rfl | simp only [zl, iz_add, iz_sub, iz_mul, iz_neg]) (by first | with_reducible rfl | simp only [zl, iz_add, iz_sub, iz_mul, iz_neg]) (by first | with_reducible rfl | simp only [zl, iz_add, iz_sub, iz_mul, iz_neg]) (by first | with_reducible rfl | simp only [zl, iz_add, iz_sub, iz_mul, iz_neg]) (by first | with_reducible rfl | simp only [zl, iz_add, iz_sub, iz_mul, iz_neg]) (by first | with_reducible rfl | simp only [zl, iz_add, iz_sub, iz_mul, iz_neg]) (by first | with_reducible rfl | simp only [zl, iz_add, iz_sub, iz_mul, iz_neg]) (by first | with_reducible rfl | simp only [zl, iz_add, iz_sub, iz_mul, iz_neg]) (by first | with_reducible rfl | simp only [zl, iz_add, iz_sub, iz_mul, iz_neg]) (by first | with_reducible rfl | simp only [zl, iz_add, iz_sub, iz_mul, iz_neg]) (by first | with_reducible rfl | simp only [zl, iz_add, iz_sub, iz_mul, iz_neg]) (by first | with_reducible rfl | simp only [zl, iz_add, iz_sub, iz_mul, iz_neg]) (by first | with_reducible rfl | simp only [zl, iz_add, iz_sub, iz_mul, iz_neg]) (by first | with_reducible rfl | simp only [zl, iz_add, iz_sub, iz_mul, iz_neg]) hv (fun r_2 u_1 y_3 y_4 hv er_5 eu_6 => ?_)
  subst er_5; subst eu_6
  try dsimp only
  obtain ⟨hs_7, hv⟩ := hv
  have q_8 := z_eq (x := (iz r_2)) (a := r_2) (by first | with_reducible rfl | simp only [zl, iz_add, iz_sub, iz_mul, iz_neg]) (y := (iz f_people)) (b := f_people) (by first | with_reducible rfl | simp only [zl, iz_add, iz_sub, iz_mul, iz_neg]) hs_7.1 hs_7.2
  refine ⟨fun c9 => ?_, fun c9 => ?_⟩
  · have hv := hv.1 (fun z9 => c9 (q_8.mpr z9))
    exact hp _ _ _ _ hv (by first | with_reducible rfl | simp only [zl, iz_add, iz_sub, iz_mul, iz_neg]) (by first | with_reducible rfl | simp only [zl, iz_add, iz_sub, iz_mul, iz_neg])
  · have hv := hv.2 (q_8.mp c9)
    exact hp _ _ _ _ hv (by first | with_reducible rfl | simp only [zl, iz_add, iz_sub, iz_mul, iz_neg]) (by first | with_reducible rfl | simp only [zl, iz_add, iz_sub, iz_mul, iz_neg])
