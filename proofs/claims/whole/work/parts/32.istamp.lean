def iv_X3_begin (t_here : (Nat → Int)) (t_arriving : (Nat → Int)) (q_people : (Nat → Int)) (post : ((Nat → Int) × (Nat → Int)) → Prop) : Prop :=
  post ((va_cpy q_people t_here 0 0 6), (fz 30 0 t_arriving))

set_option maxHeartbeats 4000000 in
theorem lift_X3_begin {t_here' : (Nat → Int32)} {t_here : (Nat → Int)} {t_arriving' : (Nat → Int32)} {t_arriving : (Nat → Int)} {q_people' : (Nat → Int32)} {q_people : (Nat → Int)} (e_t_here : t_here' = az t_here) (e_t_arriving : t_arriving' = az t_arriving) (e_q_people : q_people' = az q_people) {post0 : ((Nat → Int32) × (Nat → Int32)) → Prop} {post : ((Nat → Int) × (Nat → Int)) → Prop} (hv : iv_X3_begin t_here t_arriving q_people post) (hp : ∀ (u : (Nat → Int) × (Nat → Int)) (y : (Nat → Int32) × (Nat → Int32)), post u → y = (az u.1, az u.2) → post0 y) : vc_X3_begin t_here' t_arriving' q_people' post0 := by
  subst e_t_here
  subst e_t_arriving
  subst e_q_people
  rw [iv_X3_begin] at hv
  rw [vc_X3_begin]
  have e_1 : (va_cpy (az q_people) (az t_here) 0 0 6) = az (va_cpy q_people t_here 0 0 6) := z_cpy (by first | with_reducible rfl | simp only [zl, iz_add, iz_sub, iz_mul, iz_neg]) (by first | with_reducible rfl | simp only [zl, iz_add, iz_sub, iz_mul, iz_neg])
  try rw [e_1]
  have e_2 : (lw_fil 30 0 (az t_arriving)) = az (fz 30 0 t_arriving) := z_fil (by first | with_reducible rfl | simp only [zl, iz_add, iz_sub, iz_mul, iz_neg]) (by first | with_reducible rfl | simp only [zl, iz_add, iz_sub, iz_mul, iz_neg])
  try rw [e_2]
  exact hp _ _ hv (by first | with_reducible rfl | simp only [zl, iz_add, iz_sub, iz_mul, iz_neg])

def iv_X3_arrive_L9 (K : (Nat → Int) → (Nat → Int) → Prop) (b2 : Int) : Nat → Int → (Nat → Int) → (Nat → Int) → Prop
  | 0, _, _, _ => False
  | n + 1, v3, t_here, t_arriving =>
    ((sm 6 ∧ sm v3) ∧ ((6 ≤ v3 → K t_here t_arriving) ∧ (¬ 6 ≤ v3 → ((0 ≤ v3 ∧ v3 < 6) ∧ ((0 ≤ (b2 + v3) ∧ (b2 + v3) < 30) ∧ ((0 ≤ v3 ∧ v3 < 6) ∧ ((0 ≤ (b2 + v3) ∧ (b2 + v3) < 30) ∧ (∀ x3_15 : Int, x3_15 = v3 + 1 → iv_X3_arrive_L9 K b2 n x3_15 (uz t_here v3.toNat ((t_here v3.toNat) + (t_arriving ((b2 + v3)).toNat))) (uz t_arriving ((b2 + v3)).toNat 0)))))))))

set_option maxHeartbeats 4000000 in
theorem lift_X3_arrive_L9 {K0 : (Nat → Int32) → (Nat → Int32) → Prop} {K : (Nat → Int) → (Nat → Int) → Prop} {b2' : Int32} {b2 : Int} (e_b2 : b2' = iz b2)  (hKx : ∀ (k_t_here' : (Nat → Int32)) (k_t_arriving' : (Nat → Int32)) (k_t_here : (Nat → Int)) (k_t_arriving : (Nat → Int)), K k_t_here k_t_arriving → k_t_here' = az k_t_here → k_t_arriving' = az k_t_arriving →  K0 k_t_here' k_t_arriving') :
    ∀ (n : Nat) (v3' : Int32) (t_here' : (Nat → Int32)) (t_arriving' : (Nat → Int32)) (v3 : Int) (t_here : (Nat → Int)) (t_arriving : (Nat → Int)) (e_v3 : v3' = iz v3) (e_t_here : t_here' = az t_here) (e_t_arriving : t_arriving' = az t_arriving), iv_X3_arrive_L9 K b2 n v3 t_here t_arriving → vc_X3_arrive_L9 K0 b2' n v3' t_here' t_arriving' := by
  subst e_b2
  intro n
  induction n with
  | zero =>
    intro v3' t_here' t_arriving' v3 t_here t_arriving e_v3 e_t_here e_t_arriving hv
    exact False.elim hv
  | succ n ih =>
    intro v3' t_here' t_arriving' v3 t_here t_arriving e_v3 e_t_here e_t_arriving hv
    subst e_v3
    subst e_t_here
    subst e_t_arriving
    rw [iv_X3_arrive_L9] at hv
    rw [vc_X3_arrive_L9]
    obtain ⟨hs_5, hv⟩ := hv
    have q_6 := z_le (x := 6) (a := 6) (by first | with_reducible rfl | simp only [zl, iz_add, iz_sub, iz_mul, iz_neg]) (y := (iz v3)) (b := v3) (by first | with_reducible rfl | simp only [zl, iz_add, iz_sub, iz_mul, iz_neg]) hs_5.1 hs_5.2
    refine ⟨fun c9 => ?_, fun c9 => ?_⟩
    · have hv := hv.1 (q_6.mp c9)
      exact hKx _ _ t_here t_arriving hv (by first | with_reducible rfl | simp only [zl, iz_add, iz_sub, iz_mul, iz_neg]) (by first | with_reducible rfl | simp only [zl, iz_add, iz_sub, iz_mul, iz_neg])
    · have hv := hv.2 (fun z9 => c9 (q_6.mpr z9))
      obtain ⟨hi_7, hv⟩ := hv
      refine ⟨z_in (by first | with_reducible rfl | simp only [zl, iz_add, iz_sub, iz_mul, iz_neg]) hi_7 (by decide), ?_⟩
      have e_8 : ((az t_here) ((iz v3)).toNatClampNeg) = iz (t_here v3.toNat) := z_at (by first | with_reducible rfl | simp only [zl, iz_add, iz_sub, iz_mul, iz_neg]) (by first | with_reducible rfl | simp only [zl, iz_add, iz_sub, iz_mul, iz_neg]) hi_7 (by decide)
      try rw [e_8]
      obtain ⟨hi_9, hv⟩ := hv
      refine ⟨z_in (by first | with_reducible rfl | simp only [zl, iz_add, iz_sub, iz_mul, iz_neg]) hi_9 (by decide), ?_⟩
      have e_10 : ((az t_arriving) (((iz b2) + (iz v3))).toNatClampNeg) = iz (t_arriving ((b2 + v3)).toNat) := z_at (by first | with_reducible rfl | simp only [zl, iz_add, iz_sub, iz_mul, iz_neg]) (by first | with_reducible rfl | simp only [zl, iz_add, iz_sub, iz_mul, iz_neg]) hi_9 (by decide)
      try rw [e_10]
      obtain ⟨hi_11, hv⟩ := hv
      refine ⟨z_in (by first | with_reducible rfl | simp only [zl, iz_add, iz_sub, iz_mul, iz_neg]) hi_11 (by decide), ?_⟩
      have e_12 : (upd (az t_here) ((iz v3)).toNatClampNeg ((iz (t_here v3.toNat)) + (iz (t_arriving ((b2 + v3)).toNat)))) = az (uz t_here v3.toNat ((t_here v3.toNat) + (t_arriving ((b2 + v3)).toNat))) := z_upd (by first | with_reducible rfl | simp only [zl, iz_add, iz_sub, iz_mul, iz_neg]) (by first | with_reducible rfl | simp only [zl, iz_add, iz_sub, iz_mul, iz_neg]) (by first | with_reducible rfl | simp only [zl, iz_add, iz_sub, iz_mul, iz_neg]) hi_11 (by decide)
      try rw [e_12]
      obtain ⟨hi_13, hv⟩ := hv
      refine ⟨z_in (by first | with_reducible rfl | simp only [zl, iz_add, iz_sub, iz_mul, iz_neg]) hi_13 (by decide), ?_⟩
      have e_14 : (upd (az t_arriving) (((iz b2) + (iz v3))).toNatClampNeg 0) = az (uz t_arriving ((b2 + v3)).toNat 0) := z_upd (by first | with_reducible rfl | simp only [zl, iz_add, iz_sub, iz_mul, iz_neg]) (by first | with_reducible rfl | simp only [zl, iz_add, iz_sub, iz_mul, iz_neg]) (by first | with_reducible rfl | simp only [zl, iz_add, iz_sub, iz_mul, iz_neg]) hi_13 (by decide)
      try rw [e_14]
      intro y_16 hy_16
      obtain ⟨x3_15, hx3_15⟩ : ∃ z : Int, z = v3 + 1 := ⟨_, rfl⟩
      have hv := hv x3_15 hx3_15
      have ey_16 : y_16 = iz x3_15 := by rw [hy_16, hx3_15]; try exact (by first | with_reducible rfl | simp only [zl, iz_add, iz_sub, iz_mul, iz_neg])
      subst ey_16
      exact ih _ _ _ x3_15 (uz t_here v3.toNat ((t_here v3.toNat) + (t_arriving ((b2 + v3)).toNat))) (uz t_arriving ((b2 + v3)).toNat 0) (by first | with_reducible rfl | simp only [zl, iz_add, iz_sub, iz_mul, iz_neg]) (by first | with_reducible rfl | simp only [zl, iz_add, iz_sub, iz_mul, iz_neg]) (by first | with_reducible rfl | simp only [zl, iz_add, iz_sub, iz_mul, iz_neg]) hv

def iv_X3_arrive (a1 : Int) (t_here : (Nat → Int)) (t_arriving : (Nat → Int)) (post : ((Nat → Int) × (Nat → Int)) → Prop) : Prop :=
  ((zn a1) ∧ (∀ x2_3 : Int, x2_3 = ((a1 - a1 / 5 * 5) * 6) → (∃ n_19, iv_X3_arrive_L9 (fun t_here_17 t_arriving_18 => post (t_here_17, t_arriving_18))  x2_3 n_19 0 t_here t_arriving)))

set_option maxHeartbeats 4000000 in
theorem lift_X3_arrive {a1' : Int32} {a1 : Int} {t_here' : (Nat → Int32)} {t_here : (Nat → Int)} {t_arriving' : (Nat → Int32)} {t_arriving : (Nat → Int)} (e_a1 : a1' = iz a1) (e_t_here : t_here' = az t_here) (e_t_arriving : t_arriving' = az t_arriving) {post0 : ((Nat → Int32) × (Nat → Int32)) → Prop} {post : ((Nat → Int) × (Nat → Int)) → Prop} (hv : iv_X3_arrive a1 t_here t_arriving post) (hp : ∀ (u : (Nat → Int) × (Nat → Int)) (y : (Nat → Int32) × (Nat → Int32)), post u → y = (az u.1, az u.2) → post0 y) : vc_X3_arrive a1' t_here' t_arriving' post0 := by
  subst e_a1
  subst e_t_here
  subst e_t_arriving
  rw [iv_X3_arrive] at hv
  rw [vc_X3_arrive]
  obtain ⟨hc_1, hv⟩ := hv
  have e_2 : ((iz a1) - (iz a1) / 5 * 5) = iz (a1 - a1 / 5 * 5) := z_rem (by first | with_reducible rfl | simp only [zl, iz_add, iz_sub, iz_mul, iz_neg]) hc_1 (by decide) (by decide)
  try rw [e_2]
  intro y_4 hy_4
  obtain ⟨x2_3, hx2_3⟩ : ∃ z : Int, z = ((a1 - a1 / 5 * 5) * 6) := ⟨_, rfl⟩
  have hv := hv x2_3 hx2_3
  have ey_4 : y_4 = iz x2_3 := by rw [hy_4, hx2_3]; try exact (by first | with_reducible rfl | simp only [zl, iz_add, iz_sub, iz_mul, iz_neg])
  subst ey_4
  obtain ⟨n_19, hv⟩ := hv
  refine ⟨n_19, lift_X3_arrive_L9 (by first | with_reducible rfl | simp only [zl, iz_add, iz_sub, iz_mul, iz_neg]) (fun y_20 y_21 t_here_17 t_arriving_18 hv ey_22 ey_23 => ?_)  n_19 _ _ _ 0 t_here t_arriving (by first | with_reducible rfl | simp only [zl, iz_add, iz_sub, iz_mul, iz_neg]) (by first | with_reducible rfl | simp only [zl, iz_add, iz_sub, iz_mul, iz_neg]) (by first | with_reducible rfl | simp only [zl, iz_add, iz_sub, iz_mul, iz_neg]) hv⟩
  subst ey_22
  subst ey_23
  exact hp _ _ hv (by first | with_reducible rfl | simp only [zl, iz_add, iz_sub, iz_mul, iz_neg])

def iv_X3_peopleIn_L4 (K : Int → Prop) (b1 : Int) (t_here : (Nat → Int)) : Nat → Int → Int → Prop
  | 0, _, _ => False
  | n + 1, v2, v3 =>
    ((sm 6 ∧ sm v3) ∧ ((6 ≤ v3 → K v2) ∧ (¬ 6 ≤ v3 → (iv_X4_isIn b1 v3 (fun (r_4 : Int) (u_3 : Unit) => ((sm r_4 ∧ sm 0) ∧ ((r_4 = 0 → (∀ x3_11 : Int, x3_11 = v3 + 1 → iv_X3_peopleIn_L4 K b1 t_here n v2 x3_11)) ∧ (¬ r_4 = 0 → ((0 ≤ v3 ∧ v3 < 6) ∧ (∀ x2_15 : Int, x2_15 = (v2 + (t_here v3.toNat)) → (∀ x3_17 : Int, x3_17 = v3 + 1 → iv_X3_peopleIn_L4 K b1 t_here n x2_15 x3_17)))))))))))

set_option maxHeartbeats 4000000 in
theorem lift_X3_peopleIn_L4 {K0 : Int32 → Prop} {K : Int → Prop} {b1' : Int32} {b1 : Int} {t_here' : (Nat → Int32)} {t_here : (Nat → Int)} (e_b1 : b1' = iz b1) (e_t_here : t_here' = az t_here)  (hKx : ∀ (k2' : Int32) (k2 : Int), K k2 → k2' = iz k2 →  K0 k2') :
    ∀ (n : Nat) (v2' : Int32) (v3' : Int32) (v2 : Int) (v3 : Int) (e_v2 : v2' = iz v2) (e_v3 : v3' = iz v3), iv_X3_peopleIn_L4 K b1 t_here n v2 v3 → vc_X3_peopleIn_L4 K0 b1' t_here' n v2' v3' := by
  subst e_b1
  subst e_t_here
  intro n
  induction n with
  | zero =>
    intro v2' v3' v2 v3 e_v2 e_v3 hv
    exact False.elim hv
  | succ n ih =>
    intro v2' v3' v2 v3 e_v2 e_v3 hv
    subst e_v2
    subst e_v3
    rw [iv_X3_peopleIn_L4] at hv
    rw [vc_X3_peopleIn_L4]
    obtain ⟨hs_1, hv⟩ := hv
    have q_2 := z_le (x := 6) (a := 6) (by first | with_reducible rfl | simp only [zl, iz_add, iz_sub, iz_mul, iz_neg]) (y := (iz v3)) (b := v3) (by first | with_reducible rfl | simp only [zl, iz_add, iz_sub, iz_mul, iz_neg]) hs_1.1 hs_1.2
    refine ⟨fun c9 => ?_, fun c9 => ?_⟩
    · have hv := hv.1 (q_2.mp c9)
      exact hKx _ v2 hv (by first | with_reducible rfl | simp only [zl, iz_add, iz_sub, iz_mul, iz_neg])
    · have hv := hv.2 (fun z9 => c9 (q_2.mpr z9))
      refine lift_X4_isIn (by first | with_reducible rfl | simp only [zl, iz_add, iz_sub, iz_mul, iz_neg]) (by first | with_reducible rfl | simp only [zl, iz_add, iz_sub, iz_mul, iz_neg]) hv (fun r_4 u_3 y_5 y_6 hv er_7 eu_8 => ?_)
      subst er_7; subst eu_8
      try dsimp only
      obtain ⟨hs_9, hv⟩ := hv
      have q_10 := z_eq (x := (iz r_4)) (a := r_4) (by first | with_reducible rfl | simp only [zl, iz_add, iz_sub, iz_mul, iz_neg]) (y := 0) (b := 0) (by first | with_reducible rfl | simp only [zl, iz_add, iz_sub, iz_mul, iz_neg]) hs_9.1 hs_9.2
      refine ⟨fun c9 => ?_, fun c9 => ?_⟩
      · have hv := hv.1 (q_10.mp c9)
        intro y_12 hy_12
        obtain ⟨x3_11, hx3_11⟩ : ∃ z : Int, z = v3 + 1 := ⟨_, rfl⟩
        have hv := hv x3_11 hx3_11
        have ey_12 : y_12 = iz x3_11 := by rw [hy_12, hx3_11]; try exact (by first | with_reducible rfl | simp only [zl, iz_add, iz_sub, iz_mul, iz_neg])
        subst ey_12
        exact ih _ _ v2 x3_11 (by first | with_reducible rfl | simp only [zl, iz_add, iz_sub, iz_mul, iz_neg]) (by first | with_reducible rfl | simp only [zl, iz_add, iz_sub, iz_mul, iz_neg]) hv
      · have hv := hv.2 (fun z9 => c9 (q_10.mpr z9))
        obtain ⟨hi_13, hv⟩ := hv
        refine ⟨z_in (by first | with_reducible rfl | simp only [zl, iz_add, iz_sub, iz_mul, iz_neg]) hi_13 (by decide), ?_⟩
        have e_14 : ((az t_here) ((iz v3)).toNatClampNeg) = iz (t_here v3.toNat) := z_at (by first | with_reducible rfl | simp only [zl, iz_add, iz_sub, iz_mul, iz_neg]) (by first | with_reducible rfl | simp only [zl, iz_add, iz_sub, iz_mul, iz_neg]) hi_13 (by decide)
        try rw [e_14]
        intro y_16 hy_16
        obtain ⟨x2_15, hx2_15⟩ : ∃ z : Int, z = (v2 + (t_here v3.toNat)) := ⟨_, rfl⟩
        have hv := hv x2_15 hx2_15
        have ey_16 : y_16 = iz x2_15 := by rw [hy_16, hx2_15]; try exact (by first | with_reducible rfl | simp only [zl, iz_add, iz_sub, iz_mul, iz_neg])
        subst ey_16
        intro y_18 hy_18
        obtain ⟨x3_17, hx3_17⟩ : ∃ z : Int, z = v3 + 1 := ⟨_, rfl⟩
        have hv := hv x3_17 hx3_17
        have ey_18 : y_18 = iz x3_17 := by rw [hy_18, hx3_17]; try exact (by first | with_reducible rfl | simp only [zl, iz_add, iz_sub, iz_mul, iz_neg])
        subst ey_18
        exact ih _ _ x2_15 x3_17 (by first | with_reducible rfl | simp only [zl, iz_add, iz_sub, iz_mul, iz_neg]) (by first | with_reducible rfl | simp only [zl, iz_add, iz_sub, iz_mul, iz_neg]) hv

def iv_X3_peopleIn (a1 : Int) (t_here : (Nat → Int)) (post : Int → Unit → Prop) : Prop :=
  (∃ n_20, iv_X3_peopleIn_L4 (fun k2_19 => post k2_19 ())  a1 t_here n_20 0 0)

set_option maxHeartbeats 4000000 in
theorem lift_X3_peopleIn {a1' : Int32} {a1 : Int} {t_here' : (Nat → Int32)} {t_here : (Nat → Int)} (e_a1 : a1' = iz a1) (e_t_here : t_here' = az t_here) {post0 : Int32 → Unit → Prop} {post : Int → Unit → Prop} (hv : iv_X3_peopleIn a1 t_here post) (hp : ∀ (r : Int) (u : Unit) (x : Int32) (y : Unit), post r u → x = iz r → y = () → post0 x y) : vc_X3_peopleIn a1' t_here' post0 := by
  subst e_a1
  subst e_t_here
  rw [iv_X3_peopleIn] at hv
  rw [vc_X3_peopleIn]
  obtain ⟨n_20, hv⟩ := hv
  refine ⟨n_20, lift_X3_peopleIn_L4 (by first | with_reducible rfl | simp only [zl, iz_add, iz_sub, iz_mul, iz_neg]) (by first | with_reducible rfl | simp only [zl, iz_add, iz_sub, iz_mul, iz_neg]) (fun y_21 k2_19 hv ey_22 => ?_)  n_20 _ _ 0 0 (by first | with_reducible rfl | simp only [zl, iz_add, iz_sub, iz_mul, iz_neg]) (by first | with_reducible rfl | simp only [zl, iz_add, iz_sub, iz_mul, iz_neg]) hv⟩
  subst ey_22
  exact hp _ _ _ _ hv (by first | with_reducible rfl | simp only [zl, iz_add, iz_sub, iz_mul, iz_neg]) (by first | with_reducible rfl | simp only [zl, iz_add, iz_sub, iz_mul, iz_neg])

def iv_X3_distanceThrough (a2 : Int) (a3 : Int) (t_distance : (Nat → Int)) (q_to : (Nat → Int)) (q_length : (Nat → Int)) (q_shut : (Nat → Int)) (post : Int → Unit → Prop) : Prop :=
  ((0 ≤ a2 ∧ a2 < 10) ∧ ((0 ≤ (q_to a2.toNat) ∧ (q_to a2.toNat) < 6) ∧ (∀ x4_5 : Int, x4_5 = (t_distance ((q_to a2.toNat)).toNat) → ((0 ≤ a2 ∧ a2 < 10) ∧ ((sm (q_shut a2.toNat) ∧ sm a3) ∧ (((q_shut a2.toNat) ≤ a3 → post 1000 ()) ∧ (¬ (q_shut a2.toNat) ≤ a3 → ((sm x4_5 ∧ sm 1000) ∧ ((¬ x4_5 = 1000 → ((0 ≤ a2 ∧ a2 < 10) ∧ post ((q_length a2.toNat) + x4_5) ())) ∧ (x4_5 = 1000 → post 1000 ()))))))))))

set_option maxHeartbeats 4000000 in
theorem lift_X3_distanceThrough {a2' : Int32} {a2 : Int} {a3' : Int32} {a3 : Int} {t_distance' : (Nat → Int32)} {t_distance : (Nat → Int)} {q_to' : (Nat → Int32)} {q_to : (Nat → Int)} {q_length' : (Nat → Int32)} {q_length : (Nat → Int)} {q_shut' : (Nat → Int32)} {q_shut : (Nat → Int)} (e_a2 : a2' = iz a2) (e_a3 : a3' = iz a3) (e_t_distance : t_distance' = az t_distance) (e_q_to : q_to' = az q_to) (e_q_length : q_length' = az q_length) (e_q_shut : q_shut' = az q_shut) {post0 : Int32 → Unit → Prop} {post : Int → Unit → Prop} (hv : iv_X3_distanceThrough a2 a3 t_distance q_to q_length q_shut post) (hp : ∀ (r : Int) (u : Unit) (x : Int32) (y : Unit), post r u → x = iz r → y = () → post0 x y) : vc_X3_distanceThrough a2' a3' t_distance' q_to' q_length' q_shut' post0 := by
  subst e_a2
  subst e_a3
  subst e_t_distance
  subst e_q_to
  subst e_q_length
  subst e_q_shut
  rw [iv_X3_distanceThrough] at hv
  rw [vc_X3_distanceThrough]
  obtain ⟨hi_1, hv⟩ := hv
  refine ⟨z_in (by first | with_reducible rfl | simp only [zl, iz_add, iz_sub, iz_mul, iz_neg]) hi_1 (by decide), ?_⟩
  have e_2 : ((az q_to) ((iz a2)).toNatClampNeg) = iz (q_to a2.toNat) := z_at (by first | with_reducible rfl | simp only [zl, iz_add, iz_sub, iz_mul, iz_neg]) (by first | with_reducible rfl | simp only [zl, iz_add, iz_sub, iz_mul, iz_neg]) hi_1 (by decide)
  try rw [e_2]
  obtain ⟨hi_3, hv⟩ := hv
  refine ⟨z_in (by first | with_reducible rfl | simp only [zl, iz_add, iz_sub, iz_mul, iz_neg]) hi_3 (by decide), ?_⟩
  have e_4 : ((az t_distance) ((iz (q_to a2.toNat))).toNatClampNeg) = iz (t_distance ((q_to a2.toNat)).toNat) := z_at (by first | with_reducible rfl | simp only [zl, iz_add, iz_sub, iz_mul, iz_neg]) (by first | with_reducible rfl | simp only [zl, iz_add, iz_sub, iz_mul, iz_neg]) hi_3 (by decide)
  try rw [e_4]
  intro y_6 hy_6
  obtain ⟨x4_5, hx4_5⟩ : ∃ z : Int, z = (t_distance ((q_to a2.toNat)).toNat) := ⟨_, rfl⟩
  have hv := hv x4_5 hx4_5
  have ey_6 : y_6 = iz x4_5 := by rw [hy_6, hx4_5]; try exact (by first | with_reducible rfl | simp only [zl, iz_add, iz_sub, iz_mul, iz_neg])
  subst ey_6
  obtain ⟨hi_7, hv⟩ := hv
  refine ⟨z_in (by first | with_reducible rfl | simp only [zl, iz_add, iz_sub, iz_mul, iz_neg]) hi_7 (by decide), ?_⟩
  have e_8 : ((az q_shut) ((iz a2)).toNatClampNeg) = iz (q_shut a2.toNat) := z_at (by first | with_reducible rfl | simp only [zl, iz_add, iz_sub, iz_mul, iz_neg]) (by first | with_reducible rfl | simp only [zl, iz_add, iz_sub, iz_mul, iz_neg]) hi_7 (by decide)
  try rw [e_8]
  obtain ⟨hs_9, hv⟩ := hv
  have q_10 := z_le (x := (iz (q_shut a2.toNat))) (a := (q_shut a2.toNat)) (by first | with_reducible rfl | simp only [zl, iz_add, iz_sub, iz_mul, iz_neg]) (y := (iz a3)) (b := a3) (by first | with_reducible rfl | simp only [zl, iz_add, iz_sub, iz_mul, iz_neg]) hs_9.1 hs_9.2
  refine ⟨fun c9 => ?_, fun c9 => ?_⟩
  · have hv := hv.1 (q_10.mp c9)
    exact hp _ _ _ _ hv (by first | with_reducible rfl | simp only [zl, iz_add, iz_sub, iz_mul, iz_neg]) (by first | with_reducible rfl | simp only [zl, iz_add, iz_sub, iz_mul, iz_neg])
  · have hv := hv.2 (fun z9 => c9 (q_10.mpr z9))
    obtain ⟨hs_11, hv⟩ := hv
    have q_12 := z_eq (x := (iz x4_5)) (a := x4_5) (by first | with_reducible rfl | simp only [zl, iz_add, iz_sub, iz_mul, iz_neg]) (y := 1000) (b := 1000) (by first | with_reducible rfl | simp only [zl, iz_add, iz_sub, iz_mul, iz_neg]) hs_11.1 hs_11.2
    refine ⟨fun c9 => ?_, fun c9 => ?_⟩
    · have hv := hv.1 (fun z9 => c9 (q_12.mpr z9))
      obtain ⟨hi_13, hv⟩ := hv
      refine ⟨z_in (by first | with_reducible rfl | simp only [zl, iz_add, iz_sub, iz_mul, iz_neg]) hi_13 (by decide), ?_⟩
      have e_14 : ((az q_length) ((iz a2)).toNatClampNeg) = iz (q_length a2.toNat) := z_at (by first | with_reducible rfl | simp only [zl, iz_add, iz_sub, iz_mul, iz_neg]) (by first | with_reducible rfl | simp only [zl, iz_add, iz_sub, iz_mul, iz_neg]) hi_13 (by decide)
      try rw [e_14]
      exact hp _ _ _ _ hv (by first | with_reducible rfl | simp only [zl, iz_add, iz_sub, iz_mul, iz_neg]) (by first | with_reducible rfl | simp only [zl, iz_add, iz_sub, iz_mul, iz_neg])
    · have hv := hv.2 (q_12.mp c9)
      exact hp _ _ _ _ hv (by first | with_reducible rfl | simp only [zl, iz_add, iz_sub, iz_mul, iz_neg]) (by first | with_reducible rfl | simp only [zl, iz_add, iz_sub, iz_mul, iz_neg])

def iv_X3_findDistances_L2 (K : (Nat → Int) → Prop) (q_safeRooms : Int) : Nat → Int → (Nat → Int) → Prop
  | 0, _, _ => False
  | n + 1, v3, t_distance =>
    ((sm 6 ∧ sm v3) ∧ ((6 ≤ v3 → K t_distance) ∧ (¬ 6 ≤ v3 → (iv_X4_isIn q_safeRooms v3 (fun (r_4 : Int) (u_3 : Unit) => ((sm r_4 ∧ sm 0) ∧ ((r_4 = 0 → ((0 ≤ v3 ∧ v3 < 6) ∧ (∀ x3_13 : Int, x3_13 = v3 + 1 → iv_X3_findDistances_L2 K q_safeRooms n x3_13 (uz t_distance v3.toNat 1000)))) ∧ (¬ r_4 = 0 → ((0 ≤ v3 ∧ v3 < 6) ∧ (∀ x3_17 : Int, x3_17 = v3 + 1 → iv_X3_findDistances_L2 K q_safeRooms n x3_17 (uz t_distance v3.toNat 0)))))))))))

set_option maxHeartbeats 4000000 in
theorem lift_X3_findDistances_L2 {K0 : (Nat → Int32) → Prop} {K : (Nat → Int) → Prop} {q_safeRooms' : Int32} {q_safeRooms : Int} (e_q_safeRooms : q_safeRooms' = iz q_safeRooms)  (hKx : ∀ (k_t_distance' : (Nat → Int32)) (k_t_distance : (Nat → Int)), K k_t_distance → k_t_distance' = az k_t_distance →  K0 k_t_distance') :
    ∀ (n : Nat) (v3' : Int32) (t_distance' : (Nat → Int32)) (v3 : Int) (t_distance : (Nat → Int)) (e_v3 : v3' = iz v3) (e_t_distance : t_distance' = az t_distance), iv_X3_findDistances_L2 K q_safeRooms n v3 t_distance → vc_X3_findDistances_L2 K0 q_safeRooms' n v3' t_distance' := by
  subst e_q_safeRooms
  intro n
  induction n with
  | zero =>
    intro v3' t_distance' v3 t_distance e_v3 e_t_distance hv
    exact False.elim hv
  | succ n ih =>
    intro v3' t_distance' v3 t_distance e_v3 e_t_distance hv
    subst e_v3
    subst e_t_distance
    rw [iv_X3_findDistances_L2] at hv
    rw [vc_X3_findDistances_L2]
    obtain ⟨hs_1, hv⟩ := hv
    have q_2 := z_le (x := 6) (a := 6) (by first | with_reducible rfl | simp only [zl, iz_add, iz_sub, iz_mul, iz_neg]) (y := (iz v3)) (b := v3) (by first | with_reducible rfl | simp only [zl, iz_add, iz_sub, iz_mul, iz_neg]) hs_1.1 hs_1.2
    refine ⟨fun c9 => ?_, fun c9 => ?_⟩
    · have hv := hv.1 (q_2.mp c9)
      exact hKx _ t_distance hv (by first | with_reducible rfl | simp only [zl, iz_add, iz_sub, iz_mul, iz_neg])
    · have hv := hv.2 (fun z9 => c9 (q_2.mpr z9))
      refine lift_X4_isIn (by first | with_reducible rfl | simp only [zl, iz_add, iz_sub, iz_mul, iz_neg]) (by first | with_reducible rfl | simp only [zl, iz_add, iz_sub, iz_mul, iz_neg]) hv (fun r_4 u_3 y_5 y_6 hv er_7 eu_8 => ?_)
      subst er_7; subst eu_8
      try dsimp only
      obtain ⟨hs_9, hv⟩ := hv
      have q_10 := z_eq (x := (iz r_4)) (a := r_4) (by first | with_reducible rfl | simp only [zl, iz_add, iz_sub, iz_mul, iz_neg]) (y := 0) (b := 0) (by first | with_reducible rfl | simp only [zl, iz_add, iz_sub, iz_mul, iz_neg]) hs_9.1 hs_9.2
      refine ⟨fun c9 => ?_, fun c9 => ?_⟩
      · have hv := hv.1 (q_10.mp c9)
        obtain ⟨hi_11, hv⟩ := hv
        refine ⟨z_in (by first | with_reducible rfl | simp only [zl, iz_add, iz_sub, iz_mul, iz_neg]) hi_11 (by decide), ?_⟩
        have e_12 : (upd (az t_distance) ((iz v3)).toNatClampNeg 1000) = az (uz t_distance v3.toNat 1000) := z_upd (by first | with_reducible rfl | simp only [zl, iz_add, iz_sub, iz_mul, iz_neg]) (by first | with_reducible rfl | simp only [zl, iz_add, iz_sub, iz_mul, iz_neg]) (by first | with_reducible rfl | simp only [zl, iz_add, iz_sub, iz_mul, iz_neg]) hi_11 (by decide)
        try rw [e_12]
        intro y_14 hy_14
        obtain ⟨x3_13, hx3_13⟩ : ∃ z : Int, z = v3 + 1 := ⟨_, rfl⟩
        have hv := hv x3_13 hx3_13
        have ey_14 : y_14 = iz x3_13 := by rw [hy_14, hx3_13]; try exact (by first | with_reducible rfl | simp only [zl, iz_add, iz_sub, iz_mul, iz_neg])
        subst ey_14
        exact ih _ _ x3_13 (uz t_distance v3.toNat 1000) (by first | with_reducible rfl | simp only [zl, iz_add, iz_sub, iz_mul, iz_neg]) (by first | with_reducible rfl | simp only [zl, iz_add, iz_sub, iz_mul, iz_neg]) hv
      · have hv := hv.2 (fun z9 => c9 (q_10.mpr z9))
        obtain ⟨hi_15, hv⟩ := hv
        refine ⟨z_in (by first | with_reducible rfl | simp only [zl, iz_add, iz_sub, iz_mul, iz_neg]) hi_15 (by decide), ?_⟩
        have e_16 : (upd (az t_distance) ((iz v3)).toNatClampNeg 0) = az (uz t_distance v3.toNat 0) := z_upd (by first | with_reducible rfl | simp only [zl, iz_add, iz_sub, iz_mul, iz_neg]) (by first | with_reducible rfl | simp only [zl, iz_add, iz_sub, iz_mul, iz_neg]) (by first | with_reducible rfl | simp only [zl, iz_add, iz_sub, iz_mul, iz_neg]) hi_15 (by decide)
        try rw [e_16]
        intro y_18 hy_18
        obtain ⟨x3_17, hx3_17⟩ : ∃ z : Int, z = v3 + 1 := ⟨_, rfl⟩
        have hv := hv x3_17 hx3_17
        have ey_18 : y_18 = iz x3_17 := by rw [hy_18, hx3_17]; try exact (by first | with_reducible rfl | simp only [zl, iz_add, iz_sub, iz_mul, iz_neg])
        subst ey_18
        exact ih _ _ x3_17 (uz t_distance v3.toNat 0) (by first | with_reducible rfl | simp only [zl, iz_add, iz_sub, iz_mul, iz_neg]) (by first | with_reducible rfl | simp only [zl, iz_add, iz_sub, iz_mul, iz_neg]) hv

def iv_X3_findDistances_L59 (K : Int → (Nat → Int) → Prop) (b2 : Int) (q_passages : Int) (q_from : (Nat → Int)) (q_to : (Nat → Int)) (q_length : (Nat → Int)) (q_shut : (Nat → Int)) : Nat → Int → Int → (Nat → Int) → Prop
  | 0, _, _, _ => False
  | n + 1, v3, v5, t_distance =>
    ((sm q_passages ∧ sm v5) ∧ ((q_passages ≤ v5 → K v3 t_distance) ∧ (¬ q_passages ≤ v5 → (iv_X3_distanceThrough v5 b2 t_distance q_to q_length q_shut (fun (r_27 : Int) (u_26 : Unit) => ((0 ≤ v5 ∧ v5 < 10) ∧ ((0 ≤ (q_from v5.toNat) ∧ (q_from v5.toNat) < 6) ∧ ((sm (t_distance ((q_from v5.toNat)).toNat) ∧ sm r_27) ∧ (((t_distance ((q_from v5.toNat)).toNat) ≤ r_27 → (∀ x5_38 : Int, x5_38 = v5 + 1 → iv_X3_findDistances_L59 K b2 q_passages q_from q_to q_length q_shut n v3 x5_38 t_distance)) ∧ (¬ (t_distance ((q_from v5.toNat)).toNat) ≤ r_27 → ((0 ≤ v5 ∧ v5 < 10) ∧ ((0 ≤ (q_from v5.toNat) ∧ (q_from v5.toNat) < 6) ∧ (∀ x5_44 : Int, x5_44 = v5 + 1 → iv_X3_findDistances_L59 K b2 q_passages q_from q_to q_length q_shut n 1 x5_44 (uz t_distance ((q_from v5.toNat)).toNat r_27))))))))))))))

set_option maxHeartbeats 4000000 in
theorem lift_X3_findDistances_L59 {K0 : Int32 → (Nat → Int32) → Prop} {K : Int → (Nat → Int) → Prop} {b2' : Int32} {b2 : Int} {q_passages' : Int32} {q_passages : Int} {q_from' : (Nat → Int32)} {q_from : (Nat → Int)} {q_to' : (Nat → Int32)} {q_to : (Nat → Int)} {q_length' : (Nat → Int32)} {q_length : (Nat → Int)} {q_shut' : (Nat → Int32)} {q_shut : (Nat → Int)} (e_b2 : b2' = iz b2) (e_q_passages : q_passages' = iz q_passages) (e_q_from : q_from' = az q_from) (e_q_to : q_to' = az q_to) (e_q_length : q_length' = az q_length) (e_q_shut : q_shut' = az q_shut)  (hKx : ∀ (k3' : Int32) (k_t_distance' : (Nat → Int32)) (k3 : Int) (k_t_distance : (Nat → Int)), K k3 k_t_distance → k3' = iz k3 → k_t_distance' = az k_t_distance →  K0 k3' k_t_distance') :
    ∀ (n : Nat) (v3' : Int32) (v5' : Int32) (t_distance' : (Nat → Int32)) (v3 : Int) (v5 : Int) (t_distance : (Nat → Int)) (e_v3 : v3' = iz v3) (e_v5 : v5' = iz v5) (e_t_distance : t_distance' = az t_distance), iv_X3_findDistances_L59 K b2 q_passages q_from q_to q_length q_shut n v3 v5 t_distance → vc_X3_findDistances_L59 K0 b2' q_passages' q_from' q_to' q_length' q_shut' n v3' v5' t_distance' := by
  subst e_b2
  subst e_q_passages
  subst e_q_from
  subst e_q_to
  subst e_q_length
  subst e_q_shut
  intro n
  induction n with
  | zero =>
    intro v3' v5' t_distance' v3 v5 t_distance e_v3 e_v5 e_t_distance hv
    exact False.elim hv
  | succ n ih =>
    intro v3' v5' t_distance' v3 v5 t_distance e_v3 e_v5 e_t_distance hv
    subst e_v3
    subst e_v5
    subst e_t_distance
    rw [iv_X3_findDistances_L59] at hv
    rw [vc_X3_findDistances_L59]
    obtain ⟨hs_24, hv⟩ := hv
    have q_25 := z_le (x := (iz q_passages)) (a := q_passages) (by first | with_reducible rfl | simp only [zl, iz_add, iz_sub, iz_mul, iz_neg]) (y := (iz v5)) (b := v5) (by first | with_reducible rfl | simp only [zl, iz_add, iz_sub, iz_mul, iz_neg]) hs_24.1 hs_24.2
    refine ⟨fun c9 => ?_, fun c9 => ?_⟩
    · have hv := hv.1 (q_25.mp c9)
      exact hKx _ _ v3 t_distance hv (by first | with_reducible rfl | simp only [zl, iz_add, iz_sub, iz_mul, iz_neg]) (by first | with_reducible rfl | simp only [zl, iz_add, iz_sub, iz_mul, iz_neg])
    · have hv := hv.2 (fun z9 => c9 (q_25.mpr z9))
      refine lift_X3_distanceThrough (by first | with_reducible rfl | simp only [zl, iz_add, iz_sub, iz_mul, iz_neg]) (by first | with_reducible rfl | simp only [zl, iz_add, iz_sub, iz_mul, iz_neg]) (by first | with_reducible rfl | simp only [zl, iz_add, iz_sub, iz_mul, iz_neg]) (by first | with_reducible rfl | simp only [zl, iz_add, iz_sub, iz_mul, iz_neg]) (by first | with_reducible rfl | simp only [zl, iz_add, iz_sub, iz_mul, iz_neg]) (by first | with_reducible rfl | simp only [zl, iz_add, iz_sub, iz_mul, iz_neg]) hv (fun r_27 u_26 y_28 y_29 hv er_30 eu_31 => ?_)
      subst er_30; subst eu_31
      try dsimp only
      obtain ⟨hi_32, hv⟩ := hv
      refine ⟨z_in (by first | with_reducible rfl | simp only [zl, iz_add, iz_sub, iz_mul, iz_neg]) hi_32 (by decide), ?_⟩
      have e_33 : ((az q_from) ((iz v5)).toNatClampNeg) = iz (q_from v5.toNat) := z_at (by first | with_reducible rfl | simp only [zl, iz_add, iz_sub, iz_mul, iz_neg]) (by first | with_reducible rfl | simp only [zl, iz_add, iz_sub, iz_mul, iz_neg]) hi_32 (by decide)
      try rw [e_33]
      obtain ⟨hi_34, hv⟩ := hv
      refine ⟨z_in (by first | with_reducible rfl | simp only [zl, iz_add, iz_sub, iz_mul, iz_neg]) hi_34 (by decide), ?_⟩
      have e_35 : ((az t_distance) ((iz (q_from v5.toNat))).toNatClampNeg) = iz (t_distance ((q_from v5.toNat)).toNat) := z_at (by first | with_reducible rfl | simp only [zl, iz_add, iz_sub, iz_mul, iz_neg]) (by first | with_reducible rfl | simp only [zl, iz_add, iz_sub, iz_mul, iz_neg]) hi_34 (by decide)
      try rw [e_35]
      obtain ⟨hs_36, hv⟩ := hv
      have q_37 := z_le (x := (iz (t_distance ((q_from v5.toNat)).toNat))) (a := (t_distance ((q_from v5.toNat)).toNat)) (by first | with_reducible rfl | simp only [zl, iz_add, iz_sub, iz_mul, iz_neg]) (y := (iz r_27)) (b := r_27) (by first | with_reducible rfl | simp only [zl, iz_add, iz_sub, iz_mul, iz_neg]) hs_36.1 hs_36.2
      refine ⟨fun c9 => ?_, fun c9 => ?_⟩
      · have hv := hv.1 (q_37.mp c9)
        intro y_39 hy_39
        obtain ⟨x5_38, hx5_38⟩ : ∃ z : Int, z = v5 + 1 := ⟨_, rfl⟩
        have hv := hv x5_38 hx5_38
        have ey_39 : y_39 = iz x5_38 := by rw [hy_39, hx5_38]; try exact (by first | with_reducible rfl | simp only [zl, iz_add, iz_sub, iz_mul, iz_neg])
        subst ey_39
        exact ih _ _ _ v3 x5_38 t_distance (by first | with_reducible rfl | simp only [zl, iz_add, iz_sub, iz_mul, iz_neg]) (by first | with_reducible rfl | simp only [zl, iz_add, iz_sub, iz_mul, iz_neg]) (by first | with_reducible rfl | simp only [zl, iz_add, iz_sub, iz_mul, iz_neg]) hv
      · have hv := hv.2 (fun z9 => c9 (q_37.mpr z9))
        obtain ⟨hi_40, hv⟩ := hv
        refine ⟨z_in (by first | with_reducible rfl | simp only [zl, iz_add, iz_sub, iz_mul, iz_neg]) hi_40 (by decide), ?_⟩
        have e_41 : ((az q_from) ((iz v5)).toNatClampNeg) = iz (q_from v5.toNat) := z_at (by first | with_reducible rfl | simp only [zl, iz_add, iz_sub, iz_mul, iz_neg]) (by first | with_reducible rfl | simp only [zl, iz_add, iz_sub, iz_mul, iz_neg]) hi_40 (by decide)
        try rw [e_41]
        obtain ⟨hi_42, hv⟩ := hv
        refine ⟨z_in (by first | with_reducible rfl | simp only [zl, iz_add, iz_sub, iz_mul, iz_neg]) hi_42 (by decide), ?_⟩
        have e_43 : (upd (az t_distance) ((iz (q_from v5.toNat))).toNatClampNeg (iz r_27)) = az (uz t_distance ((q_from v5.toNat)).toNat r_27) := z_upd (by first | with_reducible rfl | simp only [zl, iz_add, iz_sub, iz_mul, iz_neg]) (by first | with_reducible rfl | simp only [zl, iz_add, iz_sub, iz_mul, iz_neg]) (by first | with_reducible rfl | simp only [zl, iz_add, iz_sub, iz_mul, iz_neg]) hi_42 (by decide)
        try rw [e_43]
        intro y_45 hy_45
        obtain ⟨x5_44, hx5_44⟩ : ∃ z : Int, z = v5 + 1 := ⟨_, rfl⟩
        have hv := hv x5_44 hx5_44
        have ey_45 : y_45 = iz x5_44 := by rw [hy_45, hx5_44]; try exact (by first | with_reducible rfl | simp only [zl, iz_add, iz_sub, iz_mul, iz_neg])
        subst ey_45
        exact ih _ _ _ 1 x5_44 (uz t_distance ((q_from v5.toNat)).toNat r_27) (by first | with_reducible rfl | simp only [zl, iz_add, iz_sub, iz_mul, iz_neg]) (by first | with_reducible rfl | simp only [zl, iz_add, iz_sub, iz_mul, iz_neg]) (by first | with_reducible rfl | simp only [zl, iz_add, iz_sub, iz_mul, iz_neg]) hv

def iv_X3_findDistances_L43 (K : (Nat → Int) → Prop) (b2 : Int) (q_passages : Int) (q_from : (Nat → Int)) (q_to : (Nat → Int)) (q_length : (Nat → Int)) (q_shut : (Nat → Int)) : Nat → Int → Int → (Nat → Int) → Prop
  | 0, _, _, _ => False
  | n + 1, v3, v4, t_distance =>
    ((sm v3 ∧ sm 0) ∧ ((v3 = 0 → K t_distance) ∧ (¬ v3 = 0 → ((sm 6 ∧ sm v4) ∧ ((6 ≤ v4 → K t_distance) ∧ (¬ 6 ≤ v4 → (∃ n_50, iv_X3_findDistances_L59 (fun k3_46 t_distance_47 => (∀ x4_48 : Int, x4_48 = v4 + 1 → iv_X3_findDistances_L43 K b2 q_passages q_from q_to q_length q_shut n k3_46 x4_48 t_distance_47))  b2 q_passages q_from q_to q_length q_shut n_50 0 0 t_distance)))))))

set_option maxHeartbeats 4000000 in
theorem lift_X3_findDistances_L43 {K0 : (Nat → Int32) → Prop} {K : (Nat → Int) → Prop} {b2' : Int32} {b2 : Int} {q_passages' : Int32} {q_passages : Int} {q_from' : (Nat → Int32)} {q_from : (Nat → Int)} {q_to' : (Nat → Int32)} {q_to : (Nat → Int)} {q_length' : (Nat → Int32)} {q_length : (Nat → Int)} {q_shut' : (Nat → Int32)} {q_shut : (Nat → Int)} (e_b2 : b2' = iz b2) (e_q_passages : q_passages' = iz q_passages) (e_q_from : q_from' = az q_from) (e_q_to : q_to' = az q_to) (e_q_length : q_length' = az q_length) (e_q_shut : q_shut' = az q_shut)  (hKx : ∀ (k_t_distance' : (Nat → Int32)) (k_t_distance : (Nat → Int)), K k_t_distance → k_t_distance' = az k_t_distance →  K0 k_t_distance') :
    ∀ (n : Nat) (v3' : Int32) (v4' : Int32) (t_distance' : (Nat → Int32)) (v3 : Int) (v4 : Int) (t_distance : (Nat → Int)) (e_v3 : v3' = iz v3) (e_v4 : v4' = iz v4) (e_t_distance : t_distance' = az t_distance), iv_X3_findDistances_L43 K b2 q_passages q_from q_to q_length q_shut n v3 v4 t_distance → vc_X3_findDistances_L43 K0 b2' q_passages' q_from' q_to' q_length' q_shut' n v3' v4' t_distance' := by
  subst e_b2
  subst e_q_passages
  subst e_q_from
  subst e_q_to
  subst e_q_length
  subst e_q_shut
  intro n
  induction n with
  | zero =>
    intro v3' v4' t_distance' v3 v4 t_distance e_v3 e_v4 e_t_distance hv
    exact False.elim hv
  | succ n ih =>
    intro v3' v4' t_distance' v3 v4 t_distance e_v3 e_v4 e_t_distance hv
    subst e_v3
    subst e_v4
    subst e_t_distance
    rw [iv_X3_findDistances_L43] at hv
    rw [vc_X3_findDistances_L43]
    obtain ⟨hs_20, hv⟩ := hv
    have q_21 := z_eq (x := (iz v3)) (a := v3) (by first | with_reducible rfl | simp only [zl, iz_add, iz_sub, iz_mul, iz_neg]) (y := 0) (b := 0) (by first | with_reducible rfl | simp only [zl, iz_add, iz_sub, iz_mul, iz_neg]) hs_20.1 hs_20.2
    refine ⟨fun c9 => ?_, fun c9 => ?_⟩
    · have hv := hv.1 (q_21.mp c9)
      exact hKx _ t_distance hv (by first | with_reducible rfl | simp only [zl, iz_add, iz_sub, iz_mul, iz_neg])
    · have hv := hv.2 (fun z9 => c9 (q_21.mpr z9))
      obtain ⟨hs_22, hv⟩ := hv
      have q_23 := z_le (x := 6) (a := 6) (by first | with_reducible rfl | simp only [zl, iz_add, iz_sub, iz_mul, iz_neg]) (y := (iz v4)) (b := v4) (by first | with_reducible rfl | simp only [zl, iz_add, iz_sub, iz_mul, iz_neg]) hs_22.1 hs_22.2
      refine ⟨fun c9 => ?_, fun c9 => ?_⟩
      · have hv := hv.1 (q_23.mp c9)
        exact hKx _ t_distance hv (by first | with_reducible rfl | simp only [zl, iz_add, iz_sub, iz_mul, iz_neg])
      · have hv := hv.2 (fun z9 => c9 (q_23.mpr z9))
        obtain ⟨n_50, hv⟩ := hv
        refine ⟨n_50, lift_X3_findDistances_L59 (by first | with_reducible rfl | simp only [zl, iz_add, iz_sub, iz_mul, iz_neg]) (by first | with_reducible rfl | simp only [zl, iz_add, iz_sub, iz_mul, iz_neg]) (by first | with_reducible rfl | simp only [zl, iz_add, iz_sub, iz_mul, iz_neg]) (by first | with_reducible rfl | simp only [zl, iz_add, iz_sub, iz_mul, iz_neg]) (by first | with_reducible rfl | simp only [zl, iz_add, iz_sub, iz_mul, iz_neg]) (by first | with_reducible rfl | simp only [zl, iz_add, iz_sub, iz_mul, iz_neg]) (fun y_51 y_52 k3_46 t_distance_47 hv ey_53 ey_54 => ?_)  n_50 _ _ _ 0 0 t_distance (by first | with_reducible rfl | simp only [zl, iz_add, iz_sub, iz_mul, iz_neg]) (by first | with_reducible rfl | simp only [zl, iz_add, iz_sub, iz_mul, iz_neg]) (by first | with_reducible rfl | simp only [zl, iz_add, iz_sub, iz_mul, iz_neg]) hv⟩
        subst ey_53
        subst ey_54
        intro y_49 hy_49
        obtain ⟨x4_48, hx4_48⟩ : ∃ z : Int, z = v4 + 1 := ⟨_, rfl⟩
        have hv := hv x4_48 hx4_48
        have ey_49 : y_49 = iz x4_48 := by rw [hy_49, hx4_48]; try exact (by first | with_reducible rfl | simp only [zl, iz_add, iz_sub, iz_mul, iz_neg])
        subst ey_49
        exact ih _ _ _ k3_46 x4_48 t_distance_47 (by first | with_reducible rfl | simp only [zl, iz_add, iz_sub, iz_mul, iz_neg]) (by first | with_reducible rfl | simp only [zl, iz_add, iz_sub, iz_mul, iz_neg]) (by first | with_reducible rfl | simp only [zl, iz_add, iz_sub, iz_mul, iz_neg]) hv

def iv_X3_findDistances (a2 : Int) (t_distance : (Nat → Int)) (q_safeRooms : Int) (q_passages : Int) (q_from : (Nat → Int)) (q_to : (Nat → Int)) (q_length : (Nat → Int)) (q_shut : (Nat → Int)) (post : (Nat → Int) → Prop) : Prop :=
  (∃ n_59, iv_X3_findDistances_L2 (fun t_distance_19 => (∃ n_56, iv_X3_findDistances_L43 (fun t_distance_55 => post t_distance_55)  a2 q_passages q_from q_to q_length q_shut n_56 1 0 t_distance_19))  q_safeRooms n_59 0 t_distance)

set_option maxHeartbeats 4000000 in
theorem lift_X3_findDistances {a2' : Int32} {a2 : Int} {t_distance' : (Nat → Int32)} {t_distance : (Nat → Int)} {q_safeRooms' : Int32} {q_safeRooms : Int} {q_passages' : Int32} {q_passages : Int} {q_from' : (Nat → Int32)} {q_from : (Nat → Int)} {q_to' : (Nat → Int32)} {q_to : (Nat → Int)} {q_length' : (Nat → Int32)} {q_length : (Nat → Int)} {q_shut' : (Nat → Int32)} {q_shut : (Nat → Int)} (e_a2 : a2' = iz a2) (e_t_distance : t_distance' = az t_distance) (e_q_safeRooms : q_safeRooms' = iz q_safeRooms) (e_q_passages : q_passages' = iz q_passages) (e_q_from : q_from' = az q_from) (e_q_to : q_to' = az q_to) (e_q_length : q_length' = az q_length) (e_q_shut : q_shut' = az q_shut) {post0 : (Nat → Int32) → Prop} {post : (Nat → Int) → Prop} (hv : iv_X3_findDistances a2 t_distance q_safeRooms q_passages q_from q_to q_length q_shut post) (hp : ∀ (u : (Nat → Int)) (y : (Nat → Int32)), post u → y = az u → post0 y) : vc_X3_findDistances a2' t_distance' q_safeRooms' q_passages' q_from' q_to' q_length' q_shut' post0 := by
  subst e_a2
  subst e_t_distance
  subst e_q_safeRooms
  subst e_q_passages
  subst e_q_from
  subst e_q_to
  subst e_q_length
  subst e_q_shut
  rw [iv_X3_findDistances] at hv
  rw [vc_X3_findDistances]
  obtain ⟨n_59, hv⟩ := hv
  refine ⟨n_59, lift_X3_findDistances_L2 (by first | with_reducible rfl | simp only [zl, iz_add, iz_sub, iz_mul, iz_neg]) (fun y_60 t_distance_19 hv ey_61 => ?_)  n_59 _ _ 0 t_distance (by first | with_reducible rfl | simp only [zl, iz_add, iz_sub, iz_mul, iz_neg]) (by first | with_reducible rfl | simp only [zl, iz_add, iz_sub, iz_mul, iz_neg]) hv⟩
  subst ey_61
  obtain ⟨n_56, hv⟩ := hv
  refine ⟨n_56, lift_X3_findDistances_L43 (by first | with_reducible rfl | simp only [zl, iz_add, iz_sub, iz_mul, iz_neg]) (by first | with_reducible rfl | simp only [zl, iz_add, iz_sub, iz_mul, iz_neg]) (by first | with_reducible rfl | simp only [zl, iz_add, iz_sub, iz_mul, iz_neg]) (by first | with_reducible rfl | simp only [zl, iz_add, iz_sub, iz_mul, iz_neg]) (by first | with_reducible rfl | simp only [zl, iz_add, iz_sub, iz_mul, iz_neg]) (by first | with_reducible rfl | simp only [zl, iz_add, iz_sub, iz_mul, iz_neg]) (fun y_57 t_distance_55 hv ey_58 => ?_)  n_56 _ _ _ 1 0 t_distance_19 (by first | with_reducible rfl | simp only [zl, iz_add, iz_sub, iz_mul, iz_neg]) (by first | with_reducible rfl | simp only [zl, iz_add, iz_sub, iz_mul, iz_neg]) (by first | with_reducible rfl | simp only [zl, iz_add, iz_sub, iz_mul, iz_neg]) hv⟩
  subst ey_58
  exact hp _ _ hv (by first | with_reducible rfl | simp only [zl, iz_add, iz_sub, iz_mul, iz_neg])

def iv_X3_findFirstPassages_L15 (K : (Nat → Int) → Prop) (b2 : Int) (t_distance : (Nat → Int)) (q_from : (Nat → Int)) (q_to : (Nat → Int)) (q_length : (Nat → Int)) (q_shut : (Nat → Int)) : Nat → Int → (Nat → Int) → Prop
  | 0, _, _ => False
  | n + 1, v3, t_firstPassage =>
    ((sm v3 ∧ sm 0) ∧ ((v3 < 0 → K t_firstPassage) ∧ (¬ v3 < 0 → ((0 ≤ v3 ∧ v3 < 10) ∧ (∀ x4_8 : Int, x4_8 = (q_from v3.toNat) → (iv_X3_distanceThrough v3 b2 t_distance q_to q_length q_shut (fun (r_11 : Int) (u_10 : Unit) => ((sm r_11 ∧ sm 1000) ∧ ((r_11 = 1000 → (∀ x3_18 : Int, x3_18 = v3 + (-1) → iv_X3_findFirstPassages_L15 K b2 t_distance q_from q_to q_length q_shut n x3_18 t_firstPassage)) ∧ (¬ r_11 = 1000 → ((0 ≤ x4_8 ∧ x4_8 < 6) ∧ ((sm r_11 ∧ sm (t_distance x4_8.toNat)) ∧ ((¬ r_11 = (t_distance x4_8.toNat) → (∀ x3_24 : Int, x3_24 = v3 + (-1) → iv_X3_findFirstPassages_L15 K b2 t_distance q_from q_to q_length q_shut n x3_24 t_firstPassage)) ∧ (r_11 = (t_distance x4_8.toNat) → ((0 ≤ x4_8 ∧ x4_8 < 6) ∧ (∀ x3_28 : Int, x3_28 = v3 + (-1) → iv_X3_findFirstPassages_L15 K b2 t_distance q_from q_to q_length q_shut n x3_28 (uz t_firstPassage x4_8.toNat v3)))))))))))))))))

set_option maxHeartbeats 4000000 in
theorem lift_X3_findFirstPassages_L15 {K0 : (Nat → Int32) → Prop} {K : (Nat → Int) → Prop} {b2' : Int32} {b2 : Int} {t_distance' : (Nat → Int32)} {t_distance : (Nat → Int)} {q_from' : (Nat → Int32)} {q_from : (Nat → Int)} {q_to' : (Nat → Int32)} {q_to : (Nat → Int)} {q_length' : (Nat → Int32)} {q_length : (Nat → Int)} {q_shut' : (Nat → Int32)} {q_shut : (Nat → Int)} (e_b2 : b2' = iz b2) (e_t_distance : t_distance' = az t_distance) (e_q_from : q_from' = az q_from) (e_q_to : q_to' = az q_to) (e_q_length : q_length' = az q_length) (e_q_shut : q_shut' = az q_shut)  (hKx : ∀ (k_t_firstPassage' : (Nat → Int32)) (k_t_firstPassage : (Nat → Int)), K k_t_firstPassage → k_t_firstPassage' = az k_t_firstPassage →  K0 k_t_firstPassage') :
    ∀ (n : Nat) (v3' : Int32) (t_firstPassage' : (Nat → Int32)) (v3 : Int) (t_firstPassage : (Nat → Int)) (e_v3 : v3' = iz v3) (e_t_firstPassage : t_firstPassage' = az t_firstPassage), iv_X3_findFirstPassages_L15 K b2 t_distance q_from q_to q_length q_shut n v3 t_firstPassage → vc_X3_findFirstPassages_L15 K0 b2' t_distance' q_from' q_to' q_length' q_shut' n v3' t_firstPassage' := by
  subst e_b2
  subst e_t_distance
  subst e_q_from
  subst e_q_to
  subst e_q_length
  subst e_q_shut
  intro n
  induction n with
  | zero =>
    intro v3' t_firstPassage' v3 t_firstPassage e_v3 e_t_firstPassage hv
    exact False.elim hv
  | succ n ih =>
    intro v3' t_firstPassage' v3 t_firstPassage e_v3 e_t_firstPassage hv
    subst e_v3
    subst e_t_firstPassage
    rw [iv_X3_findFirstPassages_L15] at hv
    rw [vc_X3_findFirstPassages_L15]
    obtain ⟨hs_4, hv⟩ := hv
    have q_5 := z_lt (x := (iz v3)) (a := v3) (by first | with_reducible rfl | simp only [zl, iz_add, iz_sub, iz_mul, iz_neg]) (y := 0) (b := 0) (by first | with_reducible rfl | simp only [zl, iz_add, iz_sub, iz_mul, iz_neg]) hs_4.1 hs_4.2
    refine ⟨fun c9 => ?_, fun c9 => ?_⟩
    · have hv := hv.1 (q_5.mp c9)
      exact hKx _ t_firstPassage hv (by first | with_reducible rfl | simp only [zl, iz_add, iz_sub, iz_mul, iz_neg])
    · have hv := hv.2 (fun z9 => c9 (q_5.mpr z9))
      obtain ⟨hi_6, hv⟩ := hv
      refine ⟨z_in (by first | with_reducible rfl | simp only [zl, iz_add, iz_sub, iz_mul, iz_neg]) hi_6 (by decide), ?_⟩
      have e_7 : ((az q_from) ((iz v3)).toNatClampNeg) = iz (q_from v3.toNat) := z_at (by first | with_reducible rfl | simp only [zl, iz_add, iz_sub, iz_mul, iz_neg]) (by first | with_reducible rfl | simp only [zl, iz_add, iz_sub, iz_mul, iz_neg]) hi_6 (by decide)
      try rw [e_7]
      intro y_9 hy_9
      obtain ⟨x4_8, hx4_8⟩ : ∃ z : Int, z = (q_from v3.toNat) := ⟨_, rfl⟩
      have hv := hv x4_8 hx4_8
      have ey_9 : y_9 = iz x4_8 := by rw [hy_9, hx4_8]; try exact (by first | with_reducible rfl | simp only [zl, iz_add, iz_sub, iz_mul, iz_neg])
      subst ey_9
      refine lift_X3_distanceThrough (by first | with_reducible rfl | simp only [zl, iz_add, iz_sub, iz_mul, iz_neg]) (by first | with_reducible rfl | simp only [zl, iz_add, iz_sub, iz_mul, iz_neg]) (by first | with_reducible rfl | simp only [zl, iz_add, iz_sub, iz_mul, iz_neg]) (by first | with_reducible rfl | simp only [zl, iz_add, iz_sub, iz_mul, iz_neg]) (by first | with_reducible rfl | simp only [zl, iz_add, iz_sub, iz_mul, iz_neg]) (by first | with_reducible rfl | simp only [zl, iz_add, iz_sub, iz_mul, iz_neg]) hv (fun r_11 u_10 y_12 y_13 hv er_14 eu_15 => ?_)
      subst er_14; subst eu_15
      try dsimp only
      obtain ⟨hs_16, hv⟩ := hv
      have q_17 := z_eq (x := (iz r_11)) (a := r_11) (by first | with_reducible rfl | simp only [zl, iz_add, iz_sub, iz_mul, iz_neg]) (y := 1000) (b := 1000) (by first | with_reducible rfl | simp only [zl, iz_add, iz_sub, iz_mul, iz_neg]) hs_16.1 hs_16.2
      refine ⟨fun c9 => ?_, fun c9 => ?_⟩
      · have hv := hv.1 (q_17.mp c9)
        intro y_19 hy_19
        obtain ⟨x3_18, hx3_18⟩ : ∃ z : Int, z = v3 + (-1) := ⟨_, rfl⟩
        have hv := hv x3_18 hx3_18
        have ey_19 : y_19 = iz x3_18 := by rw [hy_19, hx3_18]; try exact (by first | with_reducible rfl | simp only [zl, iz_add, iz_sub, iz_mul, iz_neg])
        subst ey_19
        exact ih _ _ x3_18 t_firstPassage (by first | with_reducible rfl | simp only [zl, iz_add, iz_sub, iz_mul, iz_neg]) (by first | with_reducible rfl | simp only [zl, iz_add, iz_sub, iz_mul, iz_neg]) hv
      · have hv := hv.2 (fun z9 => c9 (q_17.mpr z9))
        obtain ⟨hi_20, hv⟩ := hv
        refine ⟨z_in (by first | with_reducible rfl | simp only [zl, iz_add, iz_sub, iz_mul, iz_neg]) hi_20 (by decide), ?_⟩
        have e_21 : ((az t_distance) ((iz x4_8)).toNatClampNeg) = iz (t_distance x4_8.toNat) := z_at (by first | with_reducible rfl | simp only [zl, iz_add, iz_sub, iz_mul, iz_neg]) (by first | with_reducible rfl | simp only [zl, iz_add, iz_sub, iz_mul, iz_neg]) hi_20 (by decide)
        try rw [e_21]
        obtain ⟨hs_22, hv⟩ := hv
        have q_23 := z_eq (x := (iz r_11)) (a := r_11) (by first | with_reducible rfl | simp only [zl, iz_add, iz_sub, iz_mul, iz_neg]) (y := (iz (t_distance x4_8.toNat))) (b := (t_distance x4_8.toNat)) (by first | with_reducible rfl | simp only [zl, iz_add, iz_sub, iz_mul, iz_neg]) hs_22.1 hs_22.2
        refine ⟨fun c9 => ?_, fun c9 => ?_⟩
        · have hv := hv.1 (fun z9 => c9 (q_23.mpr z9))
          intro y_25 hy_25
          obtain ⟨x3_24, hx3_24⟩ : ∃ z : Int, z = v3 + (-1) := ⟨_, rfl⟩
          have hv := hv x3_24 hx3_24
          have ey_25 : y_25 = iz x3_24 := by rw [hy_25, hx3_24]; try exact (by first | with_reducible rfl | simp only [zl, iz_add, iz_sub, iz_mul, iz_neg])
          subst ey_25
          exact ih _ _ x3_24 t_firstPassage (by first | with_reducible rfl | simp only [zl, iz_add, iz_sub, iz_mul, iz_neg]) (by first | with_reducible rfl | simp only [zl, iz_add, iz_sub, iz_mul, iz_neg]) hv
        · have hv := hv.2 (q_23.mp c9)
          obtain ⟨hi_26, hv⟩ := hv
          refine ⟨z_in (by first | with_reducible rfl | simp only [zl, iz_add, iz_sub, iz_mul, iz_neg]) hi_26 (by decide), ?_⟩
          have e_27 : (upd (az t_firstPassage) ((iz x4_8)).toNatClampNeg (iz v3)) = az (uz t_firstPassage x4_8.toNat v3) := z_upd (by first | with_reducible rfl | simp only [zl, iz_add, iz_sub, iz_mul, iz_neg]) (by first | with_reducible rfl | simp only [zl, iz_add, iz_sub, iz_mul, iz_neg]) (by first | with_reducible rfl | simp only [zl, iz_add, iz_sub, iz_mul, iz_neg]) hi_26 (by decide)
          try rw [e_27]
          intro y_29 hy_29
          obtain ⟨x3_28, hx3_28⟩ : ∃ z : Int, z = v3 + (-1) := ⟨_, rfl⟩
          have hv := hv x3_28 hx3_28
          have ey_29 : y_29 = iz x3_28 := by rw [hy_29, hx3_28]; try exact (by first | with_reducible rfl | simp only [zl, iz_add, iz_sub, iz_mul, iz_neg])
          subst ey_29
          exact ih _ _ x3_28 (uz t_firstPassage x4_8.toNat v3) (by first | with_reducible rfl | simp only [zl, iz_add, iz_sub, iz_mul, iz_neg]) (by first | with_reducible rfl | simp only [zl, iz_add, iz_sub, iz_mul, iz_neg]) hv

def iv_X3_findFirstPassages (a2 : Int) (t_distance : (Nat → Int)) (t_firstPassage : (Nat → Int)) (q_passages : Int) (q_from : (Nat → Int)) (q_to : (Nat → Int)) (q_length : (Nat → Int)) (q_shut : (Nat → Int)) (post : (Nat → Int) → Prop) : Prop :=
  (∀ x3_2 : Int, x3_2 = (q_passages - 1) → (∃ n_31, iv_X3_findFirstPassages_L15 (fun t_firstPassage_30 => post t_firstPassage_30)  a2 t_distance q_from q_to q_length q_shut n_31 x3_2 (fz 6 (-1) t_firstPassage)))

set_option maxHeartbeats 4000000 in
theorem lift_X3_findFirstPassages {a2' : Int32} {a2 : Int} {t_distance' : (Nat → Int32)} {t_distance : (Nat → Int)} {t_firstPassage' : (Nat → Int32)} {t_firstPassage : (Nat → Int)} {q_passages' : Int32} {q_passages : Int} {q_from' : (Nat → Int32)} {q_from : (Nat → Int)} {q_to' : (Nat → Int32)} {q_to : (Nat → Int)} {q_length' : (Nat → Int32)} {q_length : (Nat → Int)} {q_shut' : (Nat → Int32)} {q_shut : (Nat → Int)} (e_a2 : a2' = iz a2) (e_t_distance : t_distance' = az t_distance) (e_t_firstPassage : t_firstPassage' = az t_firstPassage) (e_q_passages : q_passages' = iz q_passages) (e_q_from : q_from' = az q_from) (e_q_to : q_to' = az q_to) (e_q_length : q_length' = az q_length) (e_q_shut : q_shut' = az q_shut) {post0 : (Nat → Int32) → Prop} {post : (Nat → Int) → Prop} (hv : iv_X3_findFirstPassages a2 t_distance t_firstPassage q_passages q_from q_to q_length q_shut post) (hp : ∀ (u : (Nat → Int)) (y : (Nat → Int32)), post u → y = az u → post0 y) : vc_X3_findFirstPassages a2' t_distance' t_firstPassage' q_passages' q_from' q_to' q_length' q_shut' post0 := by
  subst e_a2
  subst e_t_distance
  subst e_t_firstPassage
  subst e_q_passages
  subst e_q_from
  subst e_q_to
  subst e_q_length
  subst e_q_shut
  rw [iv_X3_findFirstPassages] at hv
  rw [vc_X3_findFirstPassages]
  have e_1 : (lw_fil 6 (-1) (az t_firstPassage)) = az (fz 6 (-1) t_firstPassage) := z_fil (by first | with_reducible rfl | simp only [zl, iz_add, iz_sub, iz_mul, iz_neg]) (by first | with_reducible rfl | simp only [zl, iz_add, iz_sub, iz_mul, iz_neg])
  try rw [e_1]
  intro y_3 hy_3
  obtain ⟨x3_2, hx3_2⟩ : ∃ z : Int, z = (q_passages - 1) := ⟨_, rfl⟩
  have hv := hv x3_2 hx3_2
  have ey_3 : y_3 = iz x3_2 := by rw [hy_3, hx3_2]; try exact (by first | with_reducible rfl | simp only [zl, iz_add, iz_sub, iz_mul, iz_neg])
  subst ey_3
  obtain ⟨n_31, hv⟩ := hv
  refine ⟨n_31, lift_X3_findFirstPassages_L15 (by first | with_reducible rfl | simp only [zl, iz_add, iz_sub, iz_mul, iz_neg]) (by first | with_reducible rfl | simp only [zl, iz_add, iz_sub, iz_mul, iz_neg]) (by first | with_reducible rfl | simp only [zl, iz_add, iz_sub, iz_mul, iz_neg]) (by first | with_reducible rfl | simp only [zl, iz_add, iz_sub, iz_mul, iz_neg]) (by first | with_reducible rfl | simp only [zl, iz_add, iz_sub, iz_mul, iz_neg]) (by first | with_reducible rfl | simp only [zl, iz_add, iz_sub, iz_mul, iz_neg]) (fun y_32 t_firstPassage_30 hv ey_33 => ?_)  n_31 _ _ x3_2 (fz 6 (-1) t_firstPassage) (by first | with_reducible rfl | simp only [zl, iz_add, iz_sub, iz_mul, iz_neg]) (by first | with_reducible rfl | simp only [zl, iz_add, iz_sub, iz_mul, iz_neg]) hv⟩
  subst ey_33
  exact hp _ _ hv (by first | with_reducible rfl | simp only [zl, iz_add, iz_sub, iz_mul, iz_neg])

def iv_X3_leave_L26 (K : (Nat → Int) → (Nat → Int) → Prop) (b2 : Int) (t_firstPassage : (Nat → Int)) (q_to : (Nat → Int)) (q_width : (Nat → Int)) (q_length : (Nat → Int)) : Nat → Int → (Nat → Int) → (Nat → Int) → Prop
  | 0, _, _, _ => False
  | n + 1, v3, t_here, t_arriving =>
    ((sm 6 ∧ sm v3) ∧ ((6 ≤ v3 → K t_here t_arriving) ∧ (¬ 6 ≤ v3 → ((0 ≤ v3 ∧ v3 < 6) ∧ (∀ x4_17 : Int, x4_17 = (t_firstPassage v3.toNat) → ((sm x4_17 ∧ sm 0) ∧ ((x4_17 < 0 → (∀ x3_21 : Int, x3_21 = v3 + 1 → iv_X3_leave_L26 K b2 t_firstPassage q_to q_width q_length n x3_21 t_here t_arriving)) ∧ (¬ x4_17 < 0 → ((0 ≤ v3 ∧ v3 < 6) ∧ ((0 ≤ x4_17 ∧ x4_17 < 10) ∧ ((sm (q_width x4_17.toNat) ∧ sm (t_here v3.toNat)) ∧ (∀ x5_29 : Int, x5_29 = (if (q_width x4_17.toNat) < (t_here v3.toNat) then (q_width x4_17.toNat) else (t_here v3.toNat)) → ((0 ≤ v3 ∧ v3 < 6) ∧ ((0 ≤ v3 ∧ v3 < 6) ∧ ((0 ≤ x4_17 ∧ x4_17 < 10) ∧ ((zn (b2 + (q_length x4_17.toNat))) ∧ (∀ x6_39 : Int, x6_39 = (((b2 + (q_length x4_17.toNat)) - (b2 + (q_length x4_17.toNat)) / 5 * 5) * 6) → ((0 ≤ x4_17 ∧ x4_17 < 10) ∧ ((0 ≤ (x6_39 + (q_to x4_17.toNat)) ∧ (x6_39 + (q_to x4_17.toNat)) < 30) ∧ ((0 ≤ (x6_39 + (q_to x4_17.toNat)) ∧ (x6_39 + (q_to x4_17.toNat)) < 30) ∧ (∀ x3_47 : Int, x3_47 = v3 + 1 → iv_X3_leave_L26 K b2 t_firstPassage q_to q_width q_length n x3_47 (uz t_here v3.toNat ((t_here v3.toNat) - x5_29)) (uz t_arriving ((x6_39 + (q_to x4_17.toNat))).toNat ((t_arriving ((x6_39 + (q_to x4_17.toNat))).toNat) + x5_29)))))))))))))))))))))))

set_option maxHeartbeats 4000000 in
theorem lift_X3_leave_L26 {K0 : (Nat → Int32) → (Nat → Int32) → Prop} {K : (Nat → Int) → (Nat → Int) → Prop} {b2' : Int32} {b2 : Int} {t_firstPassage' : (Nat → Int32)} {t_firstPassage : (Nat → Int)} {q_to' : (Nat → Int32)} {q_to : (Nat → Int)} {q_width' : (Nat → Int32)} {q_width : (Nat → Int)} {q_length' : (Nat → Int32)} {q_length : (Nat → Int)} (e_b2 : b2' = iz b2) (e_t_firstPassage : t_firstPassage' = az t_firstPassage) (e_q_to : q_to' = az q_to) (e_q_width : q_width' = az q_width) (e_q_length : q_length' = az q_length)  (hKx : ∀ (k_t_here' : (Nat → Int32)) (k_t_arriving' : (Nat → Int32)) (k_t_here : (Nat → Int)) (k_t_arriving : (Nat → Int)), K k_t_here k_t_arriving → k_t_here' = az k_t_here → k_t_arriving' = az k_t_arriving →  K0 k_t_here' k_t_arriving') :
    ∀ (n : Nat) (v3' : Int32) (t_here' : (Nat → Int32)) (t_arriving' : (Nat → Int32)) (v3 : Int) (t_here : (Nat → Int)) (t_arriving : (Nat → Int)) (e_v3 : v3' = iz v3) (e_t_here : t_here' = az t_here) (e_t_arriving : t_arriving' = az t_arriving), iv_X3_leave_L26 K b2 t_firstPassage q_to q_width q_length n v3 t_here t_arriving → vc_X3_leave_L26 K0 b2' t_firstPassage' q_to' q_width' q_length' n v3' t_here' t_arriving' := by
  subst e_b2
  subst e_t_firstPassage
  subst e_q_to
  subst e_q_width
  subst e_q_length
  intro n
  induction n with
  | zero =>
    intro v3' t_here' t_arriving' v3 t_here t_arriving e_v3 e_t_here e_t_arriving hv
    exact False.elim hv
  | succ n ih =>
    intro v3' t_here' t_arriving' v3 t_here t_arriving e_v3 e_t_here e_t_arriving hv
    subst e_v3
    subst e_t_here
    subst e_t_arriving
    rw [iv_X3_leave_L26] at hv
    rw [vc_X3_leave_L26]
    obtain ⟨hs_13, hv⟩ := hv
    have q_14 := z_le (x := 6) (a := 6) (by first | with_reducible rfl | simp only [zl, iz_add, iz_sub, iz_mul, iz_neg]) (y := (iz v3)) (b := v3) (by first | with_reducible rfl | simp only [zl, iz_add, iz_sub, iz_mul, iz_neg]) hs_13.1 hs_13.2
    refine ⟨fun c9 => ?_, fun c9 => ?_⟩
    · have hv := hv.1 (q_14.mp c9)
      exact hKx _ _ t_here t_arriving hv (by first | with_reducible rfl | simp only [zl, iz_add, iz_sub, iz_mul, iz_neg]) (by first | with_reducible rfl | simp only [zl, iz_add, iz_sub, iz_mul, iz_neg])
    · have hv := hv.2 (fun z9 => c9 (q_14.mpr z9))
      obtain ⟨hi_15, hv⟩ := hv
      refine ⟨z_in (by first | with_reducible rfl | simp only [zl, iz_add, iz_sub, iz_mul, iz_neg]) hi_15 (by decide), ?_⟩
      have e_16 : ((az t_firstPassage) ((iz v3)).toNatClampNeg) = iz (t_firstPassage v3.toNat) := z_at (by first | with_reducible rfl | simp only [zl, iz_add, iz_sub, iz_mul, iz_neg]) (by first | with_reducible rfl | simp only [zl, iz_add, iz_sub, iz_mul, iz_neg]) hi_15 (by decide)
      try rw [e_16]
      intro y_18 hy_18
      obtain ⟨x4_17, hx4_17⟩ : ∃ z : Int, z = (t_firstPassage v3.toNat) := ⟨_, rfl⟩
      have hv := hv x4_17 hx4_17
      have ey_18 : y_18 = iz x4_17 := by rw [hy_18, hx4_17]; try exact (by first | with_reducible rfl | simp only [zl, iz_add, iz_sub, iz_mul, iz_neg])
      subst ey_18
      obtain ⟨hs_19, hv⟩ := hv
      have q_20 := z_lt (x := (iz x4_17)) (a := x4_17) (by first | with_reducible rfl | simp only [zl, iz_add, iz_sub, iz_mul, iz_neg]) (y := 0) (b := 0) (by first | with_reducible rfl | simp only [zl, iz_add, iz_sub, iz_mul, iz_neg]) hs_19.1 hs_19.2
      refine ⟨fun c9 => ?_, fun c9 => ?_⟩
      · have hv := hv.1 (q_20.mp c9)
        intro y_22 hy_22
        obtain ⟨x3_21, hx3_21⟩ : ∃ z : Int, z = v3 + 1 := ⟨_, rfl⟩
        have hv := hv x3_21 hx3_21
        have ey_22 : y_22 = iz x3_21 := by rw [hy_22, hx3_21]; try exact (by first | with_reducible rfl | simp only [zl, iz_add, iz_sub, iz_mul, iz_neg])
        subst ey_22
        exact ih _ _ _ x3_21 t_here t_arriving (by first | with_reducible rfl | simp only [zl, iz_add, iz_sub, iz_mul, iz_neg]) (by first | with_reducible rfl | simp only [zl, iz_add, iz_sub, iz_mul, iz_neg]) (by first | with_reducible rfl | simp only [zl, iz_add, iz_sub, iz_mul, iz_neg]) hv
      · have hv := hv.2 (fun z9 => c9 (q_20.mpr z9))
        obtain ⟨hi_23, hv⟩ := hv
        refine ⟨z_in (by first | with_reducible rfl | simp only [zl, iz_add, iz_sub, iz_mul, iz_neg]) hi_23 (by decide), ?_⟩
        have e_24 : ((az t_here) ((iz v3)).toNatClampNeg) = iz (t_here v3.toNat) := z_at (by first | with_reducible rfl | simp only [zl, iz_add, iz_sub, iz_mul, iz_neg]) (by first | with_reducible rfl | simp only [zl, iz_add, iz_sub, iz_mul, iz_neg]) hi_23 (by decide)
        try rw [e_24]
        obtain ⟨hi_25, hv⟩ := hv
        refine ⟨z_in (by first | with_reducible rfl | simp only [zl, iz_add, iz_sub, iz_mul, iz_neg]) hi_25 (by decide), ?_⟩
        have e_26 : ((az q_width) ((iz x4_17)).toNatClampNeg) = iz (q_width x4_17.toNat) := z_at (by first | with_reducible rfl | simp only [zl, iz_add, iz_sub, iz_mul, iz_neg]) (by first | with_reducible rfl | simp only [zl, iz_add, iz_sub, iz_mul, iz_neg]) hi_25 (by decide)
        try rw [e_26]
        obtain ⟨hc_27, hv⟩ := hv
        have e_28 : (if (iz (q_width x4_17.toNat)) < (iz (t_here v3.toNat)) then (iz (q_width x4_17.toNat)) else (iz (t_here v3.toNat))) = iz (if (q_width x4_17.toNat) < (t_here v3.toNat) then (q_width x4_17.toNat) else (t_here v3.toNat)) := z_min (by first | with_reducible rfl | simp only [zl, iz_add, iz_sub, iz_mul, iz_neg]) (by first | with_reducible rfl | simp only [zl, iz_add, iz_sub, iz_mul, iz_neg]) hc_27.1 hc_27.2
        try rw [e_28]
        intro y_30 hy_30
        obtain ⟨x5_29, hx5_29⟩ : ∃ z : Int, z = (if (q_width x4_17.toNat) < (t_here v3.toNat) then (q_width x4_17.toNat) else (t_here v3.toNat)) := ⟨_, rfl⟩
        have hv := hv x5_29 hx5_29
        have ey_30 : y_30 = iz x5_29 := by rw [hy_30, hx5_29]; try exact (by first | with_reducible rfl | simp only [zl, iz_add, iz_sub, iz_mul, iz_neg])
        subst ey_30
        obtain ⟨hi_31, hv⟩ := hv
        refine ⟨z_in (by first | with_reducible rfl | simp only [zl, iz_add, iz_sub, iz_mul, iz_neg]) hi_31 (by decide), ?_⟩
        have e_32 : ((az t_here) ((iz v3)).toNatClampNeg) = iz (t_here v3.toNat) := z_at (by first | with_reducible rfl | simp only [zl, iz_add, iz_sub, iz_mul, iz_neg]) (by first | with_reducible rfl | simp only [zl, iz_add, iz_sub, iz_mul, iz_neg]) hi_31 (by decide)
        try rw [e_32]
        obtain ⟨hi_33, hv⟩ := hv
        refine ⟨z_in (by first | with_reducible rfl | simp only [zl, iz_add, iz_sub, iz_mul, iz_neg]) hi_33 (by decide), ?_⟩
        have e_34 : (upd (az t_here) ((iz v3)).toNatClampNeg ((iz (t_here v3.toNat)) - (iz x5_29))) = az (uz t_here v3.toNat ((t_here v3.toNat) - x5_29)) := z_upd (by first | with_reducible rfl | simp only [zl, iz_add, iz_sub, iz_mul, iz_neg]) (by first | with_reducible rfl | simp only [zl, iz_add, iz_sub, iz_mul, iz_neg]) (by first | with_reducible rfl | simp only [zl, iz_add, iz_sub, iz_mul, iz_neg]) hi_33 (by decide)
        try rw [e_34]
        obtain ⟨hi_35, hv⟩ := hv
        refine ⟨z_in (by first | with_reducible rfl | simp only [zl, iz_add, iz_sub, iz_mul, iz_neg]) hi_35 (by decide), ?_⟩
        have e_36 : ((az q_length) ((iz x4_17)).toNatClampNeg) = iz (q_length x4_17.toNat) := z_at (by first | with_reducible rfl | simp only [zl, iz_add, iz_sub, iz_mul, iz_neg]) (by first | with_reducible rfl | simp only [zl, iz_add, iz_sub, iz_mul, iz_neg]) hi_35 (by decide)
        try rw [e_36]
        obtain ⟨hc_37, hv⟩ := hv
        have e_38 : (((iz b2) + (iz (q_length x4_17.toNat))) - ((iz b2) + (iz (q_length x4_17.toNat))) / 5 * 5) = iz ((b2 + (q_length x4_17.toNat)) - (b2 + (q_length x4_17.toNat)) / 5 * 5) := z_rem (by first | with_reducible rfl | simp only [zl, iz_add, iz_sub, iz_mul, iz_neg]) hc_37 (by decide) (by decide)
        try rw [e_38]
        intro y_40 hy_40
        obtain ⟨x6_39, hx6_39⟩ : ∃ z : Int, z = (((b2 + (q_length x4_17.toNat)) - (b2 + (q_length x4_17.toNat)) / 5 * 5) * 6) := ⟨_, rfl⟩
        have hv := hv x6_39 hx6_39
        have ey_40 : y_40 = iz x6_39 := by rw [hy_40, hx6_39]; try exact (by first | with_reducible rfl | simp only [zl, iz_add, iz_sub, iz_mul, iz_neg])
        subst ey_40
        obtain ⟨hi_41, hv⟩ := hv
        refine ⟨z_in (by first | with_reducible rfl | simp only [zl, iz_add, iz_sub, iz_mul, iz_neg]) hi_41 (by decide), ?_⟩
        have e_42 : ((az q_to) ((iz x4_17)).toNatClampNeg) = iz (q_to x4_17.toNat) := z_at (by first | with_reducible rfl | simp only [zl, iz_add, iz_sub, iz_mul, iz_neg]) (by first | with_reducible rfl | simp only [zl, iz_add, iz_sub, iz_mul, iz_neg]) hi_41 (by decide)
        try rw [e_42]
        obtain ⟨hi_43, hv⟩ := hv
        refine ⟨z_in (by first | with_reducible rfl | simp only [zl, iz_add, iz_sub, iz_mul, iz_neg]) hi_43 (by decide), ?_⟩
        have e_44 : ((az t_arriving) (((iz x6_39) + (iz (q_to x4_17.toNat)))).toNatClampNeg) = iz (t_arriving ((x6_39 + (q_to x4_17.toNat))).toNat) := z_at (by first | with_reducible rfl | simp only [zl, iz_add, iz_sub, iz_mul, iz_neg]) (by first | with_reducible rfl | simp only [zl, iz_add, iz_sub, iz_mul, iz_neg]) hi_43 (by decide)
        try rw [e_44]
        obtain ⟨hi_45, hv⟩ := hv
        refine ⟨z_in (by first | with_reducible rfl | simp only [zl, iz_add, iz_sub, iz_mul, iz_neg]) hi_45 (by decide), ?_⟩
        have e_46 : (upd (az t_arriving) (((iz x6_39) + (iz (q_to x4_17.toNat)))).toNatClampNeg ((iz (t_arriving ((x6_39 + (q_to x4_17.toNat))).toNat)) + (iz x5_29))) = az (uz t_arriving ((x6_39 + (q_to x4_17.toNat))).toNat ((t_arriving ((x6_39 + (q_to x4_17.toNat))).toNat) + x5_29)) := z_upd (by first | with_reducible rfl | simp only [zl, iz_add, iz_sub, iz_mul, iz_neg]) (by first | with_reducible rfl | simp only [zl, iz_add, iz_sub, iz_mul, iz_neg]) (by first | with_reducible rfl | simp only [zl, iz_add, iz_sub, iz_mul, iz_neg]) hi_45 (by decide)
        try rw [e_46]
        intro y_48 hy_48
        obtain ⟨x3_47, hx3_47⟩ : ∃ z : Int, z = v3 + 1 := ⟨_, rfl⟩
        have hv := hv x3_47 hx3_47
        have ey_48 : y_48 = iz x3_47 := by rw [hy_48, hx3_47]; try exact (by first | with_reducible rfl | simp only [zl, iz_add, iz_sub, iz_mul, iz_neg])
        subst ey_48
        exact ih _ _ _ x3_47 (uz t_here v3.toNat ((t_here v3.toNat) - x5_29)) (uz t_arriving ((x6_39 + (q_to x4_17.toNat))).toNat ((t_arriving ((x6_39 + (q_to x4_17.toNat))).toNat) + x5_29)) (by first | with_reducible rfl | simp only [zl, iz_add, iz_sub, iz_mul, iz_neg]) (by first | with_reducible rfl | simp only [zl, iz_add, iz_sub, iz_mul, iz_neg]) (by first | with_reducible rfl | simp only [zl, iz_add, iz_sub, iz_mul, iz_neg]) hv

def iv_X3_leave (a2 : Int) (t_here : (Nat → Int)) (t_arriving : (Nat → Int)) (t_distance : (Nat → Int)) (t_firstPassage : (Nat → Int)) (q_safeRooms : Int) (q_passages : Int) (q_from : (Nat → Int)) (q_to : (Nat → Int)) (q_width : (Nat → Int)) (q_length : (Nat → Int)) (q_shut : (Nat → Int)) (post : ((Nat → Int) × (Nat → Int) × (Nat → Int) × (Nat → Int)) → Prop) : Prop :=
  ((sm a2 ∧ sm 0) ∧ ((a2 = 0 → (iv_X3_findDistances a2 t_distance q_safeRooms q_passages q_from q_to q_length q_shut (fun (u_3 : (Nat → Int)) => (iv_X3_findFirstPassages a2 u_3 t_firstPassage q_passages q_from q_to q_length q_shut (fun (u_8 : (Nat → Int)) => (∃ n_51, iv_X3_leave_L26 (fun t_here_49 t_arriving_50 => post (t_here_49, t_arriving_50, u_3, u_8))  a2 u_8 q_to q_width q_length n_51 0 t_here t_arriving)))))) ∧ (¬ a2 = 0 → (iv_X2_anyShutsAt a2 q_passages q_shut (fun (r_57 : Int) (u_56 : Unit) => ((sm r_57 ∧ sm 0) ∧ ((r_57 = 0 → (∃ n_66, iv_X3_leave_L26 (fun t_here_64 t_arriving_65 => post (t_here_64, t_arriving_65, t_distance, t_firstPassage))  a2 t_firstPassage q_to q_width q_length n_66 0 t_here t_arriving)) ∧ (¬ r_57 = 0 → (iv_X3_findDistances a2 t_distance q_safeRooms q_passages q_from q_to q_length q_shut (fun (u_71 : (Nat → Int)) => (iv_X3_findFirstPassages a2 u_71 t_firstPassage q_passages q_from q_to q_length q_shut (fun (u_76 : (Nat → Int)) => (∃ n_83, iv_X3_leave_L26 (fun t_here_81 t_arriving_82 => post (t_here_81, t_arriving_82, u_71, u_76))  a2 u_76 q_to q_width q_length n_83 0 t_here t_arriving)))))))))))))

set_option maxHeartbeats 4000000 in
theorem lift_X3_leave {a2' : Int32} {a2 : Int} {t_here' : (Nat → Int32)} {t_here : (Nat → Int)} {t_arriving' : (Nat → Int32)} {t_arriving : (Nat → Int)} {t_distance' : (Nat → Int32)} {t_distance : (Nat → Int)} {t_firstPassage' : (Nat → Int32)} {t_firstPassage : (Nat → Int)} {q_safeRooms' : Int32} {q_safeRooms : Int} {q_passages' : Int32} {q_passages : Int} {q_from' : (Nat → Int32)} {q_from : (Nat → Int)} {q_to' : (Nat → Int32)} {q_to : (Nat → Int)} {q_width' : (Nat → Int32)} {q_width : (Nat → Int)} {q_length' : (Nat → Int32)} {q_length : (Nat → Int)} {q_shut' : (Nat → Int32)} {q_shut : (Nat → Int)} (e_a2 : a2' = iz a2) (e_t_here : t_here' = az t_here) (e_t_arriving : t_arriving' = az t_arriving) (e_t_distance : t_distance' = az t_distance) (e_t_firstPassage : t_firstPassage' = az t_firstPassage) (e_q_safeRooms : q_safeRooms' = iz q_safeRooms) (e_q_passages : q_passages' = iz q_passages) (e_q_from : q_from' = az q_from) (e_q_to : q_to' = az q_to) (e_q_width : q_width' = az q_width) (e_q_length : q_length' = az q_length) (e_q_shut : q_shut' = az q_shut) {post0 : ((Nat → Int32) × (Nat → Int32) × (Nat → Int32) × (Nat → Int32)) → Prop} {post : ((Nat → Int) × (Nat → Int) × (Nat → Int) × (Nat → Int)) → Prop} (hv : iv_X3_leave a2 t_here t_arriving t_distance t_firstPassage q_safeRooms q_passages q_from q_to q_width q_length q_shut post) (hp : ∀ (u : (Nat → Int) × (Nat → Int) × (Nat → Int) × (Nat → Int)) (y : (Nat → Int32) × (Nat → Int32) × (Nat → Int32) × (Nat → Int32)), post u → y = (az u.1, az u.2.1, az u.2.2.1, az u.2.2.2) → post0 y) : vc_X3_leave a2' t_here' t_arriving' t_distance' t_firstPassage' q_safeRooms' q_passages' q_from' q_to' q_width' q_length' q_shut' post0 := by
  subst e_a2
  subst e_t_here
  subst e_t_arriving
  subst e_t_distance
  subst e_t_firstPassage
  subst e_q_safeRooms
  subst e_q_passages
  subst e_q_from
  subst e_q_to
  subst e_q_width
  subst e_q_length
  subst e_q_shut
  rw [iv_X3_leave] at hv
  rw [vc_X3_leave]
  obtain ⟨hs_1, hv⟩ := hv
  have q_2 := z_eq (x := (iz a2)) (a := a2) (by first | with_reducible rfl | simp only [zl, iz_add, iz_sub, iz_mul, iz_neg]) (y := 0) (b := 0) (by first | with_reducible rfl | simp only [zl, iz_add, iz_sub, iz_mul, iz_neg]) hs_1.1 hs_1.2
  refine ⟨fun c9 => ?_, fun c9 => ?_⟩
  · have hv := hv.1 (q_2.mp c9)
    refine lift_X3_findDistances (by first | with_reducible rfl | simp only [zl, iz_add, iz_sub, iz_mul, iz_neg]) (by first | with_reducible rfl | simp only [zl, iz_add, iz_sub, iz_mul, iz_neg]) (by first | with_reducible rfl | simp only [zl, iz_add, iz_sub, iz_mul, iz_neg]) (by first | with_reducible rfl | simp only [zl, iz_add, iz_sub, iz_mul, iz_neg]) (by first | with_reducible rfl | simp only [zl, iz_add, iz_sub, iz_mul, iz_neg]) (by first | with_reducible rfl | simp only [zl, iz_add, iz_sub, iz_mul, iz_neg]) (by first | with_reducible rfl | simp only [zl, iz_add, iz_sub, iz_mul, iz_neg]) (by first | with_reducible rfl | simp only [zl, iz_add, iz_sub, iz_mul, iz_neg]) hv (fun u_3 y_5 hv eu_7 => ?_)
    subst eu_7
    try dsimp only
    refine lift_X3_findFirstPassages (by first | with_reducible rfl | simp only [zl, iz_add, iz_sub, iz_mul, iz_neg]) (by first | with_reducible rfl | simp only [zl, iz_add, iz_sub, iz_mul, iz_neg]) (by first | with_reducible rfl | simp only [zl, iz_add, iz_sub, iz_mul, iz_neg]) (by first | with_reducible rfl | simp only [zl, iz_add, iz_sub, iz_mul, iz_neg]) (by first | with_reducible rfl | simp only [zl, iz_add, iz_sub, iz_mul, iz_neg]) (by first | with_reducible rfl | simp only [zl, iz_add, iz_sub, iz_mul, iz_neg]) (by first | with_reducible rfl | simp only [zl, iz_add, iz_sub, iz_mul, iz_neg]) (by first | with_reducible rfl | simp only [zl, iz_add, iz_sub, iz_mul, iz_neg]) hv (fun u_8 y_10 hv eu_12 => ?_)
    subst eu_12
    try dsimp only
    obtain ⟨n_51, hv⟩ := hv
    refine ⟨n_51, lift_X3_leave_L26 (by first | with_reducible rfl | simp only [zl, iz_add, iz_sub, iz_mul, iz_neg]) (by first | with_reducible rfl | simp only [zl, iz_add, iz_sub, iz_mul, iz_neg]) (by first | with_reducible rfl | simp only [zl, iz_add, iz_sub, iz_mul, iz_neg]) (by first | with_reducible rfl | simp only [zl, iz_add, iz_sub, iz_mul, iz_neg]) (by first | with_reducible rfl | simp only [zl, iz_add, iz_sub, iz_mul, iz_neg]) (fun y_52 y_53 t_here_49 t_arriving_50 hv ey_54 ey_55 => ?_)  n_51 _ _ _ 0 t_here t_arriving (by first | with_reducible rfl | simp only [zl, iz_add, iz_sub, iz_mul, iz_neg]) (by first | with_reducible rfl | simp only [zl, iz_add, iz_sub, iz_mul, iz_neg]) (by first | with_reducible rfl | simp only [zl, iz_add, iz_sub, iz_mul, iz_neg]) hv⟩
    subst ey_54
    subst ey_55
    exact hp _ _ hv (by first | with_reducible rfl | simp only [zl, iz_add, iz_sub, iz_mul, iz_neg])
  · have hv := hv.2 (fun z9 => c9 (q_2.mpr z9))
    refine lift_X2_anyShutsAt (by first | with_reducible rfl | simp only [zl, iz_add, iz_sub, iz_mul, iz_neg]) (by first | with_reducible rfl | simp only [zl, iz_add, iz_sub, iz_mul, iz_neg]) (by first | with_reducible rfl | simp only [zl, iz_add, iz_sub, iz_mul, iz_neg]) hv (fun r_57 u_56 y_58 y_59 hv er_60 eu_61 => ?_)
    subst er_60; subst eu_61
    try dsimp only
    obtain ⟨hs_62, hv⟩ := hv
    have q_63 := z_eq (x := (iz r_57)) (a := r_57) (by first | with_reducible rfl | simp only [zl, iz_add, iz_sub, iz_mul, iz_neg]) (y := 0) (b := 0) (by first | with_reducible rfl | simp only [zl, iz_add, iz_sub, iz_mul, iz_neg]) hs_62.1 hs_62.2
    refine ⟨fun c9 => ?_, fun c9 => ?_⟩
    · have hv := hv.1 (q_63.mp c9)
      obtain ⟨n_66, hv⟩ := hv
      refine ⟨n_66, lift_X3_leave_L26 (by first | with_reducible rfl | simp only [zl, iz_add, iz_sub, iz_mul, iz_neg]) (by first | with_reducible rfl | simp only [zl, iz_add, iz_sub, iz_mul, iz_neg]) (by first | with_reducible rfl | simp only [zl, iz_add, iz_sub, iz_mul, iz_neg]) (by first | with_reducible rfl | simp only [zl, iz_add, iz_sub, iz_mul, iz_neg]) (by first | with_reducible rfl | simp only [zl, iz_add, iz_sub, iz_mul, iz_neg]) (fun y_67 y_68 t_here_64 t_arriving_65 hv ey_69 ey_70 => ?_)  n_66 _ _ _ 0 t_here t_arriving (by first | with_reducible rfl | simp only [zl, iz_add, iz_sub, iz_mul, iz_neg]) (by first | with_reducible rfl | simp only [zl, iz_add, iz_sub, iz_mul, iz_neg]) (by first | with_reducible rfl | simp only [zl, iz_add, iz_sub, iz_mul, iz_neg]) hv⟩
      subst ey_69
      subst ey_70
      exact hp _ _ hv (by first | with_reducible rfl | simp only [zl, iz_add, iz_sub, iz_mul, iz_neg])
    · have hv := hv.2 (fun z9 => c9 (q_63.mpr z9))
      refine lift_X3_findDistances (by first | with_reducible rfl | simp only [zl, iz_add, iz_sub, iz_mul, iz_neg]) (by first | with_reducible rfl | simp only [zl, iz_add, iz_sub, iz_mul, iz_neg]) (by first | with_reducible rfl | simp only [zl, iz_add, iz_sub, iz_mul, iz_neg]) (by first | with_reducible rfl | simp only [zl, iz_add, iz_sub, iz_mul, iz_neg]) (by first | with_reducible rfl | simp only [zl, iz_add, iz_sub, iz_mul, iz_neg]) (by first | with_reducible rfl | simp only [zl, iz_add, iz_sub, iz_mul, iz_neg]) (by first | with_reducible rfl | simp only [zl, iz_add, iz_sub, iz_mul, iz_neg]) (by first | with_reducible rfl | simp only [zl, iz_add, iz_sub, iz_mul, iz_neg]) hv (fun u_71 y_73 hv eu_75 => ?_)
      subst eu_75
      try dsimp only
      refine lift_X3_findFirstPassages (by first | with_reducible rfl | simp only [zl, iz_add, iz_sub, iz_mul, iz_neg]) (by first | with_reducible rfl | simp only [zl, iz_add, iz_sub, iz_mul, iz_neg]) (by first | with_reducible rfl | simp only [zl, iz_add, iz_sub, iz_mul, iz_neg]) (by first | with_reducible rfl | simp only [zl, iz_add, iz_sub, iz_mul, iz_neg]) (by first | with_reducible rfl | simp only [zl, iz_add, iz_sub, iz_mul, iz_neg]) (by first | with_reducible rfl | simp only [zl, iz_add, iz_sub, iz_mul, iz_neg]) (by first | with_reducible rfl | simp only [zl, iz_add, iz_sub, iz_mul, iz_neg]) (by first | with_reducible rfl | simp only [zl, iz_add, iz_sub, iz_mul, iz_neg]) hv (fun u_76 y_78 hv eu_80 => ?_)
      subst eu_80
      try dsimp only
      obtain ⟨n_83, hv⟩ := hv
      refine ⟨n_83, lift_X3_leave_L26 (by first | with_reducible rfl | simp only [zl, iz_add, iz_sub, iz_mul, iz_neg]) (by first | with_reducible rfl | simp only [zl, iz_add, iz_sub, iz_mul, iz_neg]) (by first | with_reducible rfl | simp only [zl, iz_add, iz_sub, iz_mul, iz_neg]) (by first | with_reducible rfl | simp only [zl, iz_add, iz_sub, iz_mul, iz_neg]) (by first | with_reducible rfl | simp only [zl, iz_add, iz_sub, iz_mul, iz_neg]) (fun y_84 y_85 t_here_81 t_arriving_82 hv ey_86 ey_87 => ?_)  n_83 _ _ _ 0 t_here t_arriving (by first | with_reducible rfl | simp only [zl, iz_add, iz_sub, iz_mul, iz_neg]) (by first | with_reducible rfl | simp only [zl, iz_add, iz_sub, iz_mul, iz_neg]) (by first | with_reducible rfl | simp only [zl, iz_add, iz_sub, iz_mul, iz_neg]) hv⟩
      subst ey_86
      subst ey_87
      exact hp _ _ hv (by first | with_reducible rfl | simp only [zl, iz_add, iz_sub, iz_mul, iz_neg])
