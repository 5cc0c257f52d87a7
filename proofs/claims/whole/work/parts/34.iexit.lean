def iv_X4_room (a1 : Int) (a2 : Int) (a3 : Int) (q_people : (Nat → Int)) (q_area : (Nat → Int)) (post : Int → ((Nat → Int) × (Nat → Int)) → Prop) : Prop :=
  (iv_X4_isRoom a1 (fun (r_2 : Int) (u_1 : Unit) => ((sm r_2 ∧ sm 0) ∧ ((¬ r_2 = 0 → (iv_X4_isWithin a2 0 30 (fun (r_10 : Int) (u_9 : Unit) => ((sm r_10 ∧ sm 0) ∧ ((r_10 = 0 → post (-2) (q_people, q_area)) ∧ (¬ r_10 = 0 → (iv_X4_isWithin a3 1 99 (fun (r_18 : Int) (u_17 : Unit) => ((sm r_18 ∧ sm 0) ∧ ((¬ r_18 = 0 → ((0 ≤ a1 ∧ a1 < 6) ∧ (∀ x4_27 : Int, x4_27 = (q_people a1.toNat) → ((0 ≤ a1 ∧ a1 < 6) ∧ ((0 ≤ a1 ∧ a1 < 6) ∧ post x4_27 ((uz q_people a1.toNat a2), (uz q_area a1.toNat a3))))))) ∧ (r_18 = 0 → post (-2) (q_people, q_area)))))))))))) ∧ (r_2 = 0 → post (-1) (q_people, q_area))))))

set_option maxHeartbeats 4000000 in
theorem lift_X4_room {a1' : Int32} {a1 : Int} {a2' : Int32} {a2 : Int} {a3' : Int32} {a3 : Int} {q_people' : (Nat → Int32)} {q_people : (Nat → Int)} {q_area' : (Nat → Int32)} {q_area : (Nat → Int)} (e_a1 : a1' = iz a1) (e_a2 : a2' = iz a2) (e_a3 : a3' = iz a3) (e_q_people : q_people' = az q_people) (e_q_area : q_area' = az q_area) {post0 : Int32 → ((Nat → Int32) × (Nat → Int32)) → Prop} {post : Int → ((Nat → Int) × (Nat → Int)) → Prop} (hv : iv_X4_room a1 a2 a3 q_people q_area post) (hp : ∀ (r : Int) (u : (Nat → Int) × (Nat → Int)) (x : Int32) (y : (Nat → Int32) × (Nat → Int32)), post r u → x = iz r → y = (az u.1, az u.2) → post0 x y) : vc_X4_room a1' a2' a3' q_people' q_area' post0 := by
  subst e_a1
  subst e_a2
  subst e_a3
  subst e_q_people
  subst e_q_area
  rw [iv_X4_room] at hv
  rw [vc_X4_room]
  refine lift_X4_isRoom (by first | with_reducible rfl | simp only [zl, iz_add, iz_sub, iz_mul, iz_neg]) hv (fun r_2 u_1 y_3 y_4 hv er_5 eu_6 => ?_)
  subst er_5; subst eu_6
  try dsimp only
  obtain ⟨hs_7, hv⟩ := hv
  have q_8 := z_eq (x := (iz r_2)) (a := r_2) (by first | with_reducible rfl | simp only [zl, iz_add, iz_sub, iz_mul, iz_neg]) (y := 0) (b := 0) (by first | with_reducible rfl | simp only [zl, iz_add, iz_sub, iz_mul, iz_neg]) hs_7.1 hs_7.2
  refine ⟨fun c9 => ?_, fun c9 => ?_⟩
  · have hv := hv.1 (fun z9 => c9 (q_8.mpr z9))
    refine lift_X4_isWithin (by first | with_reducible rfl | simp only [zl, iz_add, iz_sub, iz_mul, iz_neg]) (by first | with_reducible rfl | simp only [zl, iz_add, iz_sub, iz_mul, iz_neg]) (by first | with_reducible rfl | simp only [zl, iz_add, iz_sub, iz_mul, iz_neg]) hv (fun r_10 u_9 y_11 y_12 hv er_13 eu_14 => ?_)
    subst er_13; subst eu_14
    try dsimp only
    obtain ⟨hs_15, hv⟩ := hv
    have q_16 := z_eq (x := (iz r_10)) (a := r_10) (by first | with_reducible rfl | simp only [zl, iz_add, iz_sub, iz_mul, iz_neg]) (y := 0) (b := 0) (by first | with_reducible rfl | simp only [zl, iz_add, iz_sub, iz_mul, iz_neg]) hs_15.1 hs_15.2
    refine ⟨fun c9 => ?_, fun c9 => ?_⟩
    · have hv := hv.1 (q_16.mp c9)
      exact hp _ _ _ _ hv (by first | with_reducible rfl | simp only [zl, iz_add, iz_sub, iz_mul, iz_neg]) (by first | with_reducible rfl | simp only [zl, iz_add, iz_sub, iz_mul, iz_neg])
    · have hv := hv.2 (fun z9 => c9 (q_16.mpr z9))
      refine lift_X4_isWithin (by first | with_reducible rfl | simp only [zl, iz_add, iz_sub, iz_mul, iz_neg]) (by first | with_reducible rfl | simp only [zl, iz_add, iz_sub, iz_mul, iz_neg]) (by first | with_reducible rfl | simp only [zl, iz_add, iz_sub, iz_mul, iz_neg]) hv (fun r_18 u_17 y_19 y_20 hv er_21 eu_22 => ?_)
      subst er_21; subst eu_22
      try dsimp only
      obtain ⟨hs_23, hv⟩ := hv
      have q_24 := z_eq (x := (iz r_18)) (a := r_18) (by first | with_reducible rfl | simp only [zl, iz_add, iz_sub, iz_mul, iz_neg]) (y := 0) (b := 0) (by first | with_reducible rfl | simp only [zl, iz_add, iz_sub, iz_mul, iz_neg]) hs_23.1 hs_23.2
      refine ⟨fun c9 => ?_, fun c9 => ?_⟩
      · have hv := hv.1 (fun z9 => c9 (q_24.mpr z9))
        obtain ⟨hi_25, hv⟩ := hv
        refine ⟨z_in (by first | with_reducible rfl | simp only [zl, iz_add, iz_sub, iz_mul, iz_neg]) hi_25 (by decide), ?_⟩
        have e_26 : ((az q_people) ((iz a1)).toNatClampNeg) = iz (q_people a1.toNat) := z_at (by first | with_reducible rfl | simp only [zl, iz_add, iz_sub, iz_mul, iz_neg]) (by first | with_reducible rfl | simp only [zl, iz_add, iz_sub, iz_mul, iz_neg]) hi_25 (by decide)
        try rw [e_26]
        intro y_28 hy_28
        obtain ⟨x4_27, hx4_27⟩ : ∃ z : Int, z = (q_people a1.toNat) := ⟨_, rfl⟩
        have hv := hv x4_27 hx4_27
        have ey_28 : y_28 = iz x4_27 := by rw [hy_28, hx4_27]; try exact (by first | with_reducible rfl | simp only [zl, iz_add, iz_sub, iz_mul, iz_neg])
        subst ey_28
        obtain ⟨hi_29, hv⟩ := hv
        refine ⟨z_in (by first | with_reducible rfl | simp only [zl, iz_add, iz_sub, iz_mul, iz_neg]) hi_29 (by decide), ?_⟩
        have e_30 : (upd (az q_people) ((iz a1)).toNatClampNeg (iz a2)) = az (uz q_people a1.toNat a2) := z_upd (by first | with_reducible rfl | simp only [zl, iz_add, iz_sub, iz_mul, iz_neg]) (by first | with_reducible rfl | simp only [zl, iz_add, iz_sub, iz_mul, iz_neg]) (by first | with_reducible rfl | simp only [zl, iz_add, iz_sub, iz_mul, iz_neg]) hi_29 (by decide)
        try rw [e_30]
        obtain ⟨hi_31, hv⟩ := hv
        refine ⟨z_in (by first | with_reducible rfl | simp only [zl, iz_add, iz_sub, iz_mul, iz_neg]) hi_31 (by decide), ?_⟩
        have e_32 : (upd (az q_area) ((iz a1)).toNatClampNeg (iz a3)) = az (uz q_area a1.toNat a3) := z_upd (by first | with_reducible rfl | simp only [zl, iz_add, iz_sub, iz_mul, iz_neg]) (by first | with_reducible rfl | simp only [zl, iz_add, iz_sub, iz_mul, iz_neg]) (by first | with_reducible rfl | simp only [zl, iz_add, iz_sub, iz_mul, iz_neg]) hi_31 (by decide)
        try rw [e_32]
        exact hp _ _ _ _ hv (by first | with_reducible rfl | simp only [zl, iz_add, iz_sub, iz_mul, iz_neg]) (by first | with_reducible rfl | simp only [zl, iz_add, iz_sub, iz_mul, iz_neg])
      · have hv := hv.2 (q_24.mp c9)
        exact hp _ _ _ _ hv (by first | with_reducible rfl | simp only [zl, iz_add, iz_sub, iz_mul, iz_neg]) (by first | with_reducible rfl | simp only [zl, iz_add, iz_sub, iz_mul, iz_neg])
  · have hv := hv.2 (q_8.mp c9)
    exact hp _ _ _ _ hv (by first | with_reducible rfl | simp only [zl, iz_add, iz_sub, iz_mul, iz_neg]) (by first | with_reducible rfl | simp only [zl, iz_add, iz_sub, iz_mul, iz_neg])

def iv_X4_passage (a1 : Int) (a2 : Int) (a3 : Int) (a4 : Int) (q_passages : Int) (q_from : (Nat → Int)) (q_to : (Nat → Int)) (q_width : (Nat → Int)) (q_length : (Nat → Int)) (q_shut : (Nat → Int)) (post : Int → (Int × (Nat → Int) × (Nat → Int) × (Nat → Int) × (Nat → Int) × (Nat → Int)) → Prop) : Prop :=
  (iv_X4_isRoom a1 (fun (r_2 : Int) (u_1 : Unit) => ((sm r_2 ∧ sm 0) ∧ ((r_2 = 0 → post (-1) (q_passages, q_from, q_to, q_width, q_length, q_shut)) ∧ (¬ r_2 = 0 → (iv_X4_isRoom a2 (fun (r_10 : Int) (u_9 : Unit) => ((sm r_10 ∧ sm 0) ∧ ((¬ r_10 = 0 → ((sm a1 ∧ sm a2) ∧ ((a1 = a2 → post (-2) (q_passages, q_from, q_to, q_width, q_length, q_shut)) ∧ (¬ a1 = a2 → (iv_X4_isWithin a3 1 6 (fun (r_20 : Int) (u_19 : Unit) => ((sm r_20 ∧ sm 0) ∧ ((r_20 = 0 → post (-2) (q_passages, q_from, q_to, q_width, q_length, q_shut)) ∧ (¬ r_20 = 0 → (iv_X4_isWithin a4 1 4 (fun (r_28 : Int) (u_27 : Unit) => ((sm r_28 ∧ sm 0) ∧ ((¬ r_28 = 0 → ((sm q_passages ∧ sm 10) ∧ ((q_passages < 10 → (iv_X2_addPassage a1 a2 a3 a4 q_passages q_from q_to q_width q_length q_shut (fun (u_37 : Int × (Nat → Int) × (Nat → Int) × (Nat → Int) × (Nat → Int) × (Nat → Int)) => post (u_37.1 - 1) (u_37.1, u_37.2.1, u_37.2.2.1, u_37.2.2.2.1, u_37.2.2.2.2.1, u_37.2.2.2.2.2)))) ∧ (¬ q_passages < 10 → post (-4) (q_passages, q_from, q_to, q_width, q_length, q_shut))))) ∧ (r_28 = 0 → post (-2) (q_passages, q_from, q_to, q_width, q_length, q_shut))))))))))))))) ∧ (r_10 = 0 → post (-1) (q_passages, q_from, q_to, q_width, q_length, q_shut)))))))))))

set_option maxHeartbeats 4000000 in
theorem lift_X4_passage {a1' : Int32} {a1 : Int} {a2' : Int32} {a2 : Int} {a3' : Int32} {a3 : Int} {a4' : Int32} {a4 : Int} {q_passages' : Int32} {q_passages : Int} {q_from' : (Nat → Int32)} {q_from : (Nat → Int)} {q_to' : (Nat → Int32)} {q_to : (Nat → Int)} {q_width' : (Nat → Int32)} {q_width : (Nat → Int)} {q_length' : (Nat → Int32)} {q_length : (Nat → Int)} {q_shut' : (Nat → Int32)} {q_shut : (Nat → Int)} (e_a1 : a1' = iz a1) (e_a2 : a2' = iz a2) (e_a3 : a3' = iz a3) (e_a4 : a4' = iz a4) (e_q_passages : q_passages' = iz q_passages) (e_q_from : q_from' = az q_from) (e_q_to : q_to' = az q_to) (e_q_width : q_width' = az q_width) (e_q_length : q_length' = az q_length) (e_q_shut : q_shut' = az q_shut) {post0 : Int32 → (Int32 × (Nat → Int32) × (Nat → Int32) × (Nat → Int32) × (Nat → Int32) × (Nat → Int32)) → Prop} {post : Int → (Int × (Nat → Int) × (Nat → Int) × (Nat → Int) × (Nat → Int) × (Nat → Int)) → Prop} (hv : iv_X4_passage a1 a2 a3 a4 q_passages q_from q_to q_width q_length q_shut post) (hp : ∀ (r : Int) (u : Int × (Nat → Int) × (Nat → Int) × (Nat → Int) × (Nat → Int) × (Nat → Int)) (x : Int32) (y : Int32 × (Nat → Int32) × (Nat → Int32) × (Nat → Int32) × (Nat → Int32) × (Nat → Int32)), post r u → x = iz r → y = (iz u.1, az u.2.1, az u.2.2.1, az u.2.2.2.1, az u.2.2.2.2.1, az u.2.2.2.2.2) → post0 x y) : vc_X4_passage a1' a2' a3' a4' q_passages' q_from' q_to' q_width' q_length' q_shut' post0 := by
  subst e_a1
  subst e_a2
  subst e_a3
  subst e_a4
  subst e_q_passages
  subst e_q_from
  subst e_q_to
  subst e_q_width
  subst e_q_length
  subst e_q_shut
  rw [iv_X4_passage] at hv
  rw [vc_X4_passage]
  refine lift_X4_isRoom (by first | with_reducible rfl | simp only [zl, iz_add, iz_sub, iz_mul, iz_neg]) hv (fun r_2 u_1 y_3 y_4 hv er_5 eu_6 => ?_)
  subst er_5; subst eu_6
  try dsimp only
  obtain ⟨hs_7, hv⟩ := hv
  have q_8 := z_eq (x := (iz r_2)) (a := r_2) (by first | with_reducible rfl | simp only [zl, iz_add, iz_sub, iz_mul, iz_neg]) (y := 0) (b := 0) (by first | with_reducible rfl | simp only [zl, iz_add, iz_sub, iz_mul, iz_neg]) hs_7.1 hs_7.2
  refine ⟨fun c9 => ?_, fun c9 => ?_⟩
  · have hv := hv.1 (q_8.mp c9)
    exact hp _ _ _ _ hv (by first | with_reducible rfl | simp only [zl, iz_add, iz_sub, iz_mul, iz_neg]) (by first | with_reducible rfl | simp only [zl, iz_add, iz_sub, iz_mul, iz_neg])
  · have hv := hv.2 (fun z9 => c9 (q_8.mpr z9))
    refine lift_X4_isRoom (by first | with_reducible rfl | simp only [zl, iz_add, iz_sub, iz_mul, iz_neg]) hv (fun r_10 u_9 y_11 y_12 hv er_13 eu_14 => ?_)
    subst er_13; subst eu_14
    try dsimp only
    obtain ⟨hs_15, hv⟩ := hv
    have q_16 := z_eq (x := (iz r_10)) (a := r_10) (by first | with_reducible rfl | simp only [zl, iz_add, iz_sub, iz_mul, iz_neg]) (y := 0) (b := 0) (by first | with_reducible rfl | simp only [zl, iz_add, iz_sub, iz_mul, iz_neg]) hs_15.1 hs_15.2
    refine ⟨fun c9 => ?_, fun c9 => ?_⟩
    · have hv := hv.1 (fun z9 => c9 (q_16.mpr z9))
      obtain ⟨hs_17, hv⟩ := hv
      have q_18 := z_eq (x := (iz a1)) (a := a1) (by first | with_reducible rfl | simp only [zl, iz_add, iz_sub, iz_mul, iz_neg]) (y := (iz a2)) (b := a2) (by first | with_reducible rfl | simp only [zl, iz_add, iz_sub, iz_mul, iz_neg]) hs_17.1 hs_17.2
      refine ⟨fun c9 => ?_, fun c9 => ?_⟩
      · have hv := hv.1 (q_18.mp c9)
        exact hp _ _ _ _ hv (by first | with_reducible rfl | simp only [zl, iz_add, iz_sub, iz_mul, iz_neg]) (by first | with_reducible rfl | simp only [zl, iz_add, iz_sub, iz_mul, iz_neg])
      · have hv := hv.2 (fun z9 => c9 (q_18.mpr z9))
        refine lift_X4_isWithin (by first | with_reducible rfl | simp only [zl, iz_add, iz_sub, iz_mul, iz_neg]) (by first | with_reducible rfl | simp only [zl, iz_add, iz_sub, iz_mul, iz_neg]) (by first | with_reducible rfl | simp only [zl, iz_add, iz_sub, iz_mul, iz_neg]) hv (fun r_20 u_19 y_21 y_22 hv er_23 eu_24 => ?_)
        subst er_23; subst eu_24
        try dsimp only
        obtain ⟨hs_25, hv⟩ := hv
        have q_26 := z_eq (x := (iz r_20)) (a := r_20) (by first | with_reducible rfl | simp only [zl, iz_add, iz_sub, iz_mul, iz_neg]) (y := 0) (b := 0) (by first | with_reducible rfl | simp only [zl, iz_add, iz_sub, iz_mul, iz_neg]) hs_25.1 hs_25.2
        refine ⟨fun c9 => ?_, fun c9 => ?_⟩
        · have hv := hv.1 (q_26.mp c9)
          exact hp _ _ _ _ hv (by first | with_reducible rfl | simp only [zl, iz_add, iz_sub, iz_mul, iz_neg]) (by first | with_reducible rfl | simp only [zl, iz_add, iz_sub, iz_mul, iz_neg])
        · have hv := hv.2 (fun z9 => c9 (q_26.mpr z9))
          refine lift_X4_isWithin (by first | with_reducible rfl | simp only [zl, iz_add, iz_sub, iz_mul, iz_neg]) (by first | with_reducible rfl | simp only [zl, iz_add, iz_sub, iz_mul, iz_neg]) (by first | with_reducible rfl | simp only [zl, iz_add, iz_sub, iz_mul, iz_neg]) hv (fun r_28 u_27 y_29 y_30 hv er_31 eu_32 => ?_)
          subst er_31; subst eu_32
          try dsimp only
          obtain ⟨hs_33, hv⟩ := hv
          have q_34 := z_eq (x := (iz r_28)) (a := r_28) (by first | with_reducible rfl | simp only [zl, iz_add, iz_sub, iz_mul, iz_neg]) (y := 0) (b := 0) (by first | with_reducible rfl | simp only [zl, iz_add, iz_sub, iz_mul, iz_neg]) hs_33.1 hs_33.2
          refine ⟨fun c9 => ?_, fun c9 => ?_⟩
          · have hv := hv.1 (fun z9 => c9 (q_34.mpr z9))
            obtain ⟨hs_35, hv⟩ := hv
            have q_36 := z_lt (x := (iz q_passages)) (a := q_passages) (by first | with_reducible rfl | simp only [zl, iz_add, iz_sub, iz_mul, iz_neg]) (y := 10) (b := 10) (by first | with_reducible rfl | simp only [zl, iz_add, iz_sub, iz_mul, iz_neg]) hs_35.1 hs_35.2
            refine ⟨fun c9 => ?_, fun c9 => ?_⟩
            · have hv := hv.1 (q_36.mp c9)
              refine lift_X2_addPassage (by first | with_reducible rfl | simp only [zl, iz_add, iz_sub, iz_mul, iz_neg]) (by first | with_reducible rfl | simp only [zl, iz_add, iz_sub, iz_mul, iz_neg]) (by first | with_reducible rfl | simp only [zl, iz_add, iz_sub, iz_mul, iz_neg]) (by first | with_reducible rfl | simp only [zl, iz_add, iz_sub, iz_mul, iz_neg]) (by first | with_reducible rfl | simp only [zl, iz_add, iz_sub, iz_mul, iz_neg]) (by first | with_reducible rfl | simp only [zl, iz_add, iz_sub, iz_mul, iz_neg]) (by first | with_reducible rfl | simp only [zl, iz_add, iz_sub, iz_mul, iz_neg]) (by first | with_reducible rfl | simp only [zl, iz_add, iz_sub, iz_mul, iz_neg]) (by first | with_reducible rfl | simp only [zl, iz_add, iz_sub, iz_mul, iz_neg]) (by first | with_reducible rfl | simp only [zl, iz_add, iz_sub, iz_mul, iz_neg]) hv (fun u_37 y_39 hv eu_41 => ?_)
              subst eu_41
              try dsimp only
              exact hp _ _ _ _ hv (by first | with_reducible rfl | simp only [zl, iz_add, iz_sub, iz_mul, iz_neg]) (by first | with_reducible rfl | simp only [zl, iz_add, iz_sub, iz_mul, iz_neg])
            · have hv := hv.2 (fun z9 => c9 (q_36.mpr z9))
              exact hp _ _ _ _ hv (by first | with_reducible rfl | simp only [zl, iz_add, iz_sub, iz_mul, iz_neg]) (by first | with_reducible rfl | simp only [zl, iz_add, iz_sub, iz_mul, iz_neg])
          · have hv := hv.2 (q_34.mp c9)
            exact hp _ _ _ _ hv (by first | with_reducible rfl | simp only [zl, iz_add, iz_sub, iz_mul, iz_neg]) (by first | with_reducible rfl | simp only [zl, iz_add, iz_sub, iz_mul, iz_neg])
    · have hv := hv.2 (q_16.mp c9)
      exact hp _ _ _ _ hv (by first | with_reducible rfl | simp only [zl, iz_add, iz_sub, iz_mul, iz_neg]) (by first | with_reducible rfl | simp only [zl, iz_add, iz_sub, iz_mul, iz_neg])

def iv_X4_isPassage (a1 : Int) (q_passages : Int) (post : Int → Unit → Prop) : Prop :=
  (iv_X4_isWithin a1 0 (q_passages - 1) (fun (r_2 : Int) (u_1 : Unit) => ((r_2 = 0 ∨ r_2 = 1) ∧ post r_2 ())))

set_option maxHeartbeats 4000000 in
theorem lift_X4_isPassage {a1' : Int32} {a1 : Int} {q_passages' : Int32} {q_passages : Int} (e_a1 : a1' = iz a1) (e_q_passages : q_passages' = iz q_passages) {post0 : Int32 → Unit → Prop} {post : Int → Unit → Prop} (hv : iv_X4_isPassage a1 q_passages post) (hp : ∀ (r : Int) (u : Unit) (x : Int32) (y : Unit), post r u → x = iz r → y = () → post0 x y) : vc_X4_isPassage a1' q_passages' post0 := by
  subst e_a1
  subst e_q_passages
  rw [iv_X4_isPassage] at hv
  rw [vc_X4_isPassage]
  refine lift_X4_isWithin (by first | with_reducible rfl | simp only [zl, iz_add, iz_sub, iz_mul, iz_neg]) (by first | with_reducible rfl | simp only [zl, iz_add, iz_sub, iz_mul, iz_neg]) (by first | with_reducible rfl | simp only [zl, iz_add, iz_sub, iz_mul, iz_neg]) hv (fun r_2 u_1 y_3 y_4 hv er_5 eu_6 => ?_)
  subst er_5; subst eu_6
  try dsimp only
  refine ⟨z_nar (by first | with_reducible rfl | simp only [zl, iz_add, iz_sub, iz_mul, iz_neg]) hv.1, hp _ _ _ _ hv.2 (by first | with_reducible rfl | simp only [zl, iz_add, iz_sub, iz_mul, iz_neg]) (by first | with_reducible rfl | simp only [zl, iz_add, iz_sub, iz_mul, iz_neg])⟩

def iv_X4_widen (a1 : Int) (a2 : Int) (q_passages : Int) (q_width : (Nat → Int)) (post : Int → (Nat → Int) → Prop) : Prop :=
  (iv_X4_isPassage a1 q_passages (fun (r_2 : Int) (u_1 : Unit) => ((sm r_2 ∧ sm 0) ∧ ((¬ r_2 = 0 → (iv_X4_isWithin a2 1 6 (fun (r_10 : Int) (u_9 : Unit) => ((sm r_10 ∧ sm 0) ∧ ((¬ r_10 = 0 → ((0 ≤ a1 ∧ a1 < 10) ∧ (∀ x3_19 : Int, x3_19 = (q_width a1.toNat) → ((0 ≤ a1 ∧ a1 < 10) ∧ post x3_19 (uz q_width a1.toNat a2))))) ∧ (r_10 = 0 → post (-2) q_width)))))) ∧ (r_2 = 0 → post (-1) q_width)))))

set_option maxHeartbeats 4000000 in
theorem lift_X4_widen {a1' : Int32} {a1 : Int} {a2' : Int32} {a2 : Int} {q_passages' : Int32} {q_passages : Int} {q_width' : (Nat → Int32)} {q_width : (Nat → Int)} (e_a1 : a1' = iz a1) (e_a2 : a2' = iz a2) (e_q_passages : q_passages' = iz q_passages) (e_q_width : q_width' = az q_width) {post0 : Int32 → (Nat → Int32) → Prop} {post : Int → (Nat → Int) → Prop} (hv : iv_X4_widen a1 a2 q_passages q_width post) (hp : ∀ (r : Int) (u : (Nat → Int)) (x : Int32) (y : (Nat → Int32)), post r u → x = iz r → y = az u → post0 x y) : vc_X4_widen a1' a2' q_passages' q_width' post0 := by
  subst e_a1
  subst e_a2
  subst e_q_passages
  subst e_q_width
  rw [iv_X4_widen] at hv
  rw [vc_X4_widen]
  refine lift_X4_isPassage (by first | with_reducible rfl | simp only [zl, iz_add, iz_sub, iz_mul, iz_neg]) (by first | with_reducible rfl | simp only [zl, iz_add, iz_sub, iz_mul, iz_neg]) hv (fun r_2 u_1 y_3 y_4 hv er_5 eu_6 => ?_)
  subst er_5; subst eu_6
  try dsimp only
  obtain ⟨hs_7, hv⟩ := hv
  have q_8 := z_eq (x := (iz r_2)) (a := r_2) (by first | with_reducible rfl | simp only [zl, iz_add, iz_sub, iz_mul, iz_neg]) (y := 0) (b := 0) (by first | with_reducible rfl | simp only [zl, iz_add, iz_sub, iz_mul, iz_neg]) hs_7.1 hs_7.2
  refine ⟨fun c9 => ?_, fun c9 => ?_⟩
  · have hv := hv.1 (fun z9 => c9 (q_8.mpr z9))
    refine lift_X4_isWithin (by first | with_reducible rfl | simp only [zl, iz_add, iz_sub, iz_mul, iz_neg]) (by first | with_reducible rfl | simp only [zl, iz_add, iz_sub, iz_mul, iz_neg]) (by first | with_reducible rfl | simp only [zl, iz_add, iz_sub, iz_mul, iz_neg]) hv (fun r_10 u_9 y_11 y_12 hv er_13 eu_14 => ?_)
    subst er_13; subst eu_14
    try dsimp only
    obtain ⟨hs_15, hv⟩ := hv
    have q_16 := z_eq (x := (iz r_10)) (a := r_10) (by first | with_reducible rfl | simp only [zl, iz_add, iz_sub, iz_mul, iz_neg]) (y := 0) (b := 0) (by first | with_reducible rfl | simp only [zl, iz_add, iz_sub, iz_mul, iz_neg]) hs_15.1 hs_15.2
    refine ⟨fun c9 => ?_, fun c9 => ?_⟩
    · have hv := hv.1 (fun z9 => c9 (q_16.mpr z9))
      obtain ⟨hi_17, hv⟩ := hv
      refine ⟨z_in (by first | with_reducible rfl | simp only [zl, iz_add, iz_sub, iz_mul, iz_neg]) hi_17 (by decide), ?_⟩
      have e_18 : ((az q_width) ((iz a1)).toNatClampNeg) = iz (q_width a1.toNat) := z_at (by first | with_reducible rfl | simp only [zl, iz_add, iz_sub, iz_mul, iz_neg]) (by first | with_reducible rfl | simp only [zl, iz_add, iz_sub, iz_mul, iz_neg]) hi_17 (by decide)
      try rw [e_18]
      intro y_20 hy_20
      obtain ⟨x3_19, hx3_19⟩ : ∃ z : Int, z = (q_width a1.toNat) := ⟨_, rfl⟩
      have hv := hv x3_19 hx3_19
      have ey_20 : y_20 = iz x3_19 := by rw [hy_20, hx3_19]; try exact (by first | with_reducible rfl | simp only [zl, iz_add, iz_sub, iz_mul, iz_neg])
      subst ey_20
      obtain ⟨hi_21, hv⟩ := hv
      refine ⟨z_in (by first | with_reducible rfl | simp only [zl, iz_add, iz_sub, iz_mul, iz_neg]) hi_21 (by decide), ?_⟩
      have e_22 : (upd (az q_width) ((iz a1)).toNatClampNeg (iz a2)) = az (uz q_width a1.toNat a2) := z_upd (by first | with_reducible rfl | simp only [zl, iz_add, iz_sub, iz_mul, iz_neg]) (by first | with_reducible rfl | simp only [zl, iz_add, iz_sub, iz_mul, iz_neg]) (by first | with_reducible rfl | simp only [zl, iz_add, iz_sub, iz_mul, iz_neg]) hi_21 (by decide)
      try rw [e_22]
      exact hp _ _ _ _ hv (by first | with_reducible rfl | simp only [zl, iz_add, iz_sub, iz_mul, iz_neg]) (by first | with_reducible rfl | simp only [zl, iz_add, iz_sub, iz_mul, iz_neg])
    · have hv := hv.2 (q_16.mp c9)
      exact hp _ _ _ _ hv (by first | with_reducible rfl | simp only [zl, iz_add, iz_sub, iz_mul, iz_neg]) (by first | with_reducible rfl | simp only [zl, iz_add, iz_sub, iz_mul, iz_neg])
  · have hv := hv.2 (q_8.mp c9)
    exact hp _ _ _ _ hv (by first | with_reducible rfl | simp only [zl, iz_add, iz_sub, iz_mul, iz_neg]) (by first | with_reducible rfl | simp only [zl, iz_add, iz_sub, iz_mul, iz_neg])

def iv_X4_shut (a1 : Int) (a2 : Int) (q_passages : Int) (q_shut : (Nat → Int)) (post : Int → (Nat → Int) → Prop) : Prop :=
  (iv_X4_isPassage a1 q_passages (fun (r_2 : Int) (u_1 : Unit) => ((sm r_2 ∧ sm 0) ∧ ((¬ r_2 = 0 → (iv_X4_isWithin a2 (-1) 60 (fun (r_10 : Int) (u_9 : Unit) => ((sm r_10 ∧ sm 0) ∧ ((¬ r_10 = 0 → (iv_X2_shutTickOrNone a1 q_shut (fun (r_18 : Int) (u_17 : Unit) => ((sm 0 ∧ sm a2) ∧ ((0 ≤ a2 → ((0 ≤ a1 ∧ a1 < 10) ∧ post r_18 (uz q_shut a1.toNat a2))) ∧ (¬ 0 ≤ a2 → ((0 ≤ a1 ∧ a1 < 10) ∧ post r_18 (uz q_shut a1.toNat 1000)))))))) ∧ (r_10 = 0 → post (-2) q_shut)))))) ∧ (r_2 = 0 → post (-1) q_shut)))))

set_option maxHeartbeats 4000000 in
theorem lift_X4_shut {a1' : Int32} {a1 : Int} {a2' : Int32} {a2 : Int} {q_passages' : Int32} {q_passages : Int} {q_shut' : (Nat → Int32)} {q_shut : (Nat → Int)} (e_a1 : a1' = iz a1) (e_a2 : a2' = iz a2) (e_q_passages : q_passages' = iz q_passages) (e_q_shut : q_shut' = az q_shut) {post0 : Int32 → (Nat → Int32) → Prop} {post : Int → (Nat → Int) → Prop} (hv : iv_X4_shut a1 a2 q_passages q_shut post) (hp : ∀ (r : Int) (u : (Nat → Int)) (x : Int32) (y : (Nat → Int32)), post r u → x = iz r → y = az u → post0 x y) : vc_X4_shut a1' a2' q_passages' q_shut' post0 := by
  subst e_a1
  subst e_a2
  subst e_q_passages
  subst e_q_shut
  rw [iv_X4_shut] at hv
  rw [vc_X4_shut]
  refine lift_X4_isPassage (by first | with_reducible rfl | simp only [zl, iz_add, iz_sub, iz_mul, iz_neg]) (by first | with_reducible rfl | simp only [zl, iz_add, iz_sub, iz_mul, iz_neg]) hv (fun r_2 u_1 y_3 y_4 hv er_5 eu_6 => ?_)
  subst er_5; subst eu_6
  try dsimp only
  obtain ⟨hs_7, hv⟩ := hv
  have q_8 := z_eq (x := (iz r_2)) (a := r_2) (by first | with_reducible rfl | simp only [zl, iz_add, iz_sub, iz_mul, iz_neg]) (y := 0) (b := 0) (by first | with_reducible rfl | simp only [zl, iz_add, iz_sub, iz_mul, iz_neg]) hs_7.1 hs_7.2
  refine ⟨fun c9 => ?_, fun c9 => ?_⟩
  · have hv := hv.1 (fun z9 => c9 (q_8.mpr z9))
    refine lift_X4_isWithin (by first | with_reducible rfl | simp only [zl, iz_add, iz_sub, iz_mul, iz_neg]) (by first | with_reducible rfl | simp only [zl, iz_add, iz_sub, iz_mul, iz_neg]) (by first | with_reducible rfl | simp only [zl, iz_add, iz_sub, iz_mul, iz_neg]) hv (fun r_10 u_9 y_11 y_12 hv er_13 eu_14 => ?_)
    subst er_13; subst eu_14
    try dsimp only
    obtain ⟨hs_15, hv⟩ := hv
    have q_16 := z_eq (x := (iz r_10)) (a := r_10) (by first | with_reducible rfl | simp only [zl, iz_add, iz_sub, iz_mul, iz_neg]) (y := 0) (b := 0) (by first | with_reducible rfl | simp only [zl, iz_add, iz_sub, iz_mul, iz_neg]) hs_15.1 hs_15.2
    refine ⟨fun c9 => ?_, fun c9 => ?_⟩
    · have hv := hv.1 (fun z9 => c9 (q_16.mpr z9))
      refine lift_X2_shutTickOrNone (by first | with_reducible rfl | simp only [zl, iz_add, iz_sub, iz_mul, iz_neg]) (by first | with_reducible rfl | simp only [zl, iz_add, iz_sub, iz_mul, iz_neg]) hv (fun r_18 u_17 y_19 y_20 hv er_21 eu_22 => ?_)
      subst er_21; subst eu_22
      try dsimp only
      obtain ⟨hs_23, hv⟩ := hv
      have q_24 := z_le (x := 0) (a := 0) (by first | with_reducible rfl | simp only [zl, iz_add, iz_sub, iz_mul, iz_neg]) (y := (iz a2)) (b := a2) (by first | with_reducible rfl | simp only [zl, iz_add, iz_sub, iz_mul, iz_neg]) hs_23.1 hs_23.2
      refine ⟨fun c9 => ?_, fun c9 => ?_⟩
      · have hv := hv.1 (q_24.mp c9)
        obtain ⟨hi_25, hv⟩ := hv
        refine ⟨z_in (by first | with_reducible rfl | simp only [zl, iz_add, iz_sub, iz_mul, iz_neg]) hi_25 (by decide), ?_⟩
        have e_26 : (upd (az q_shut) ((iz a1)).toNatClampNeg (iz a2)) = az (uz q_shut a1.toNat a2) := z_upd (by first | with_reducible rfl | simp only [zl, iz_add, iz_sub, iz_mul, iz_neg]) (by first | with_reducible rfl | simp only [zl, iz_add, iz_sub, iz_mul, iz_neg]) (by first | with_reducible rfl | simp only [zl, iz_add, iz_sub, iz_mul, iz_neg]) hi_25 (by decide)
        try rw [e_26]
        exact hp _ _ _ _ hv (by first | with_reducible rfl | simp only [zl, iz_add, iz_sub, iz_mul, iz_neg]) (by first | with_reducible rfl | simp only [zl, iz_add, iz_sub, iz_mul, iz_neg])
      · have hv := hv.2 (fun z9 => c9 (q_24.mpr z9))
        obtain ⟨hi_27, hv⟩ := hv
        refine ⟨z_in (by first | with_reducible rfl | simp only [zl, iz_add, iz_sub, iz_mul, iz_neg]) hi_27 (by decide), ?_⟩
        have e_28 : (upd (az q_shut) ((iz a1)).toNatClampNeg 1000) = az (uz q_shut a1.toNat 1000) := z_upd (by first | with_reducible rfl | simp only [zl, iz_add, iz_sub, iz_mul, iz_neg]) (by first | with_reducible rfl | simp only [zl, iz_add, iz_sub, iz_mul, iz_neg]) (by first | with_reducible rfl | simp only [zl, iz_add, iz_sub, iz_mul, iz_neg]) hi_27 (by decide)
        try rw [e_28]
        exact hp _ _ _ _ hv (by first | with_reducible rfl | simp only [zl, iz_add, iz_sub, iz_mul, iz_neg]) (by first | with_reducible rfl | simp only [zl, iz_add, iz_sub, iz_mul, iz_neg])
    · have hv := hv.2 (q_16.mp c9)
      exact hp _ _ _ _ hv (by first | with_reducible rfl | simp only [zl, iz_add, iz_sub, iz_mul, iz_neg]) (by first | with_reducible rfl | simp only [zl, iz_add, iz_sub, iz_mul, iz_neg])
  · have hv := hv.2 (q_8.mp c9)
    exact hp _ _ _ _ hv (by first | with_reducible rfl | simp only [zl, iz_add, iz_sub, iz_mul, iz_neg]) (by first | with_reducible rfl | simp only [zl, iz_add, iz_sub, iz_mul, iz_neg])

def iv_X4_say (a1 : Int) (d_signs : (Nat → Int)) (d_size : Int) (post : Int → ((Nat → Int) × Int) → Prop) : Prop :=
  (iv_X4_isWithin a1 33 126 (fun (r_2 : Int) (u_1 : Unit) => ((sm r_2 ∧ sm 0) ∧ ((¬ r_2 = 0 → ((sm d_size ∧ sm 40) ∧ ((d_size < 40 → (iv_X1_add a1 d_signs d_size (fun (u_11 : (Nat → Int) × Int) => post u_11.2 (u_11.1, u_11.2)))) ∧ (¬ d_size < 40 → post (-4) (d_signs, d_size))))) ∧ (r_2 = 0 → post (-2) (d_signs, d_size))))))

set_option maxHeartbeats 4000000 in
theorem lift_X4_say {a1' : Int32} {a1 : Int} {d_signs' : (Nat → Int32)} {d_signs : (Nat → Int)} {d_size' : Int32} {d_size : Int} (e_a1 : a1' = iz a1) (e_d_signs : d_signs' = az d_signs) (e_d_size : d_size' = iz d_size) {post0 : Int32 → ((Nat → Int32) × Int32) → Prop} {post : Int → ((Nat → Int) × Int) → Prop} (hv : iv_X4_say a1 d_signs d_size post) (hp : ∀ (r : Int) (u : (Nat → Int) × Int) (x : Int32) (y : (Nat → Int32) × Int32), post r u → x = iz r → y = (az u.1, iz u.2) → post0 x y) : vc_X4_say a1' d_signs' d_size' post0 := by
  subst e_a1
  subst e_d_signs
  subst e_d_size
  rw [iv_X4_say] at hv
  rw [vc_X4_say]
  refine lift_X4_isWithin (by first | with_reducible rfl | simp only [zl, iz_add, iz_sub, iz_mul, iz_neg]) (by first | with_reducible rfl | simp only [zl, iz_add, iz_sub, iz_mul, iz_neg]) (by first | with_reducible rfl | simp only [zl, iz_add, iz_sub, iz_mul, iz_neg]) hv (fun r_2 u_1 y_3 y_4 hv er_5 eu_6 => ?_)
  subst er_5; subst eu_6
  try dsimp only
  obtain ⟨hs_7, hv⟩ := hv
  have q_8 := z_eq (x := (iz r_2)) (a := r_2) (by first | with_reducible rfl | simp only [zl, iz_add, iz_sub, iz_mul, iz_neg]) (y := 0) (b := 0) (by first | with_reducible rfl | simp only [zl, iz_add, iz_sub, iz_mul, iz_neg]) hs_7.1 hs_7.2
  refine ⟨fun c9 => ?_, fun c9 => ?_⟩
  · have hv := hv.1 (fun z9 => c9 (q_8.mpr z9))
    obtain ⟨hs_9, hv⟩ := hv
    have q_10 := z_lt (x := (iz d_size)) (a := d_size) (by first | with_reducible rfl | simp only [zl, iz_add, iz_sub, iz_mul, iz_neg]) (y := 40) (b := 40) (by first | with_reducible rfl | simp only [zl, iz_add, iz_sub, iz_mul, iz_neg]) hs_9.1 hs_9.2
    refine ⟨fun c9 => ?_, fun c9 => ?_⟩
    · have hv := hv.1 (q_10.mp c9)
      refine lift_X1_add (by first | with_reducible rfl | simp only [zl, iz_add, iz_sub, iz_mul, iz_neg]) (by first | with_reducible rfl | simp only [zl, iz_add, iz_sub, iz_mul, iz_neg]) (by first | with_reducible rfl | simp only [zl, iz_add, iz_sub, iz_mul, iz_neg]) hv (fun u_11 y_13 hv eu_15 => ?_)
      subst eu_15
      try dsimp only
      exact hp _ _ _ _ hv (by first | with_reducible rfl | simp only [zl, iz_add, iz_sub, iz_mul, iz_neg]) (by first | with_reducible rfl | simp only [zl, iz_add, iz_sub, iz_mul, iz_neg])
    · have hv := hv.2 (fun z9 => c9 (q_10.mpr z9))
      exact hp _ _ _ _ hv (by first | with_reducible rfl | simp only [zl, iz_add, iz_sub, iz_mul, iz_neg]) (by first | with_reducible rfl | simp only [zl, iz_add, iz_sub, iz_mul, iz_neg])
  · have hv := hv.2 (q_8.mp c9)
    exact hp _ _ _ _ hv (by first | with_reducible rfl | simp only [zl, iz_add, iz_sub, iz_mul, iz_neg]) (by first | with_reducible rfl | simp only [zl, iz_add, iz_sub, iz_mul, iz_neg])

def iv_X4_wipe (d_size : Int) (post : Int → Int → Prop) : Prop :=
  post d_size 0

set_option maxHeartbeats 4000000 in
theorem lift_X4_wipe {d_size' : Int32} {d_size : Int} (e_d_size : d_size' = iz d_size) {post0 : Int32 → Int32 → Prop} {post : Int → Int → Prop} (hv : iv_X4_wipe d_size post) (hp : ∀ (r : Int) (u : Int) (x : Int32) (y : Int32), post r u → x = iz r → y = iz u → post0 x y) : vc_X4_wipe d_size' post0 := by
  subst e_d_size
  rw [iv_X4_wipe] at hv
  rw [vc_X4_wipe]
  exact hp _ _ _ _ hv (by first | with_reducible rfl | simp only [zl, iz_add, iz_sub, iz_mul, iz_neg]) (by first | with_reducible rfl | simp only [zl, iz_add, iz_sub, iz_mul, iz_neg])

def iv_X4_fault (d_signs : (Nat → Int)) (d_size : Int) (post : Int → Unit → Prop) : Prop :=
  (iv_X1_faultPlace d_signs d_size (fun (r_2 : Int) (u_1 : Unit) => post r_2 ()))

set_option maxHeartbeats 4000000 in
theorem lift_X4_fault {d_signs' : (Nat → Int32)} {d_signs : (Nat → Int)} {d_size' : Int32} {d_size : Int} (e_d_signs : d_signs' = az d_signs) (e_d_size : d_size' = iz d_size) {post0 : Int32 → Unit → Prop} {post : Int → Unit → Prop} (hv : iv_X4_fault d_signs d_size post) (hp : ∀ (r : Int) (u : Unit) (x : Int32) (y : Unit), post r u → x = iz r → y = () → post0 x y) : vc_X4_fault d_signs' d_size' post0 := by
  subst e_d_signs
  subst e_d_size
  rw [iv_X4_fault] at hv
  rw [vc_X4_fault]
  refine lift_X1_faultPlace (by first | with_reducible rfl | simp only [zl, iz_add, iz_sub, iz_mul, iz_neg]) (by first | with_reducible rfl | simp only [zl, iz_add, iz_sub, iz_mul, iz_neg]) hv (fun r_2 u_1 y_3 y_4 hv er_5 eu_6 => ?_)
  subst er_5; subst eu_6
  try dsimp only
  exact hp _ _ _ _ hv (by first | with_reducible rfl | simp only [zl, iz_add, iz_sub, iz_mul, iz_neg]) (by first | with_reducible rfl | simp only [zl, iz_add, iz_sub, iz_mul, iz_neg])

def iv_X4_read (q_passages : Int) (q_from : (Nat → Int)) (q_to : (Nat → Int)) (q_width : (Nat → Int)) (q_length : (Nat → Int)) (q_shut : (Nat → Int)) (d_signs : (Nat → Int)) (d_size : Int) (post : Int → (Int × (Nat → Int) × (Nat → Int) × (Nat → Int) × (Nat → Int) × (Nat → Int) × Int) → Prop) : Prop :=
  (iv_X1_faultPlace d_signs d_size (fun (r_2 : Int) (u_1 : Unit) => ((sm r_2 ∧ sm (-6)) ∧ ((r_2 = (-6) → ((zn d_size) ∧ ((sm (q_passages + (d_size / 4)) ∧ sm 10) ∧ (((q_passages + (d_size / 4)) ≤ 10 → (iv_X1_moveInto d_signs d_size q_passages q_from q_to q_width q_length q_shut (fun (u_13 : Int × Int × (Nat → Int) × (Nat → Int) × (Nat → Int) × (Nat → Int) × (Nat → Int)) => post u_13.2.1 (u_13.2.1, u_13.2.2.1, u_13.2.2.2.1, u_13.2.2.2.2.1, u_13.2.2.2.2.2.1, u_13.2.2.2.2.2.2, u_13.1)))) ∧ (¬ (q_passages + (d_size / 4)) ≤ 10 → post (-4) (q_passages, q_from, q_to, q_width, q_length, q_shut, d_size)))))) ∧ (¬ r_2 = (-6) → post (-7) (q_passages, q_from, q_to, q_width, q_length, q_shut, d_size))))))

set_option maxHeartbeats 4000000 in
theorem lift_X4_read {q_passages' : Int32} {q_passages : Int} {q_from' : (Nat → Int32)} {q_from : (Nat → Int)} {q_to' : (Nat → Int32)} {q_to : (Nat → Int)} {q_width' : (Nat → Int32)} {q_width : (Nat → Int)} {q_length' : (Nat → Int32)} {q_length : (Nat → Int)} {q_shut' : (Nat → Int32)} {q_shut : (Nat → Int)} {d_signs' : (Nat → Int32)} {d_signs : (Nat → Int)} {d_size' : Int32} {d_size : Int} (e_q_passages : q_passages' = iz q_passages) (e_q_from : q_from' = az q_from) (e_q_to : q_to' = az q_to) (e_q_width : q_width' = az q_width) (e_q_length : q_length' = az q_length) (e_q_shut : q_shut' = az q_shut) (e_d_signs : d_signs' = az d_signs) (e_d_size : d_size' = iz d_size) {post0 : Int32 → (Int32 × (Nat → Int32) × (Nat → Int32) × (Nat → Int32) × (Nat → Int32) × (Nat → Int32) × Int32) → Prop} {post : Int → (Int × (Nat → Int) × (Nat → Int) × (Nat → Int) × (Nat → Int) × (Nat → Int) × Int) → Prop} (hv : iv_X4_read q_passages q_from q_to q_width q_length q_shut d_signs d_size post) (hp : ∀ (r : Int) (u : Int × (Nat → Int) × (Nat → Int) × (Nat → Int) × (Nat → Int) × (Nat → Int) × Int) (x : Int32) (y : Int32 × (Nat → Int32) × (Nat → Int32) × (Nat → Int32) × (Nat → Int32) × (Nat → Int32) × Int32), post r u → x = iz r → y = (iz u.1, az u.2.1, az u.2.2.1, az u.2.2.2.1, az u.2.2.2.2.1, az u.2.2.2.2.2.1, iz u.2.2.2.2.2.2) → post0 x y) : vc_X4_read q_passages' q_from' q_to' q_width' q_length' q_shut' d_signs' d_size' post0 := by
  subst e_q_passages
  subst e_q_from
  subst e_q_to
  subst e_q_width
  subst e_q_length
  subst e_q_shut
  subst e_d_signs
  subst e_d_size
  rw [iv_X4_read] at hv
  rw [vc_X4_read]
  refine lift_X1_faultPlace (by first | with_reducible rfl | simp only [zl, iz_add, iz_sub, iz_mul, iz_neg]) (by first | with_reducible rfl | simp only [zl, iz_add, iz_sub, iz_mul, iz_neg]) hv (fun r_2 u_1 y_3 y_4 hv er_5 eu_6 => ?_)
  subst er_5; subst eu_6
  try dsimp only
  obtain ⟨hs_7, hv⟩ := hv
  have q_8 := z_eq (x := (iz r_2)) (a := r_2) (by first | with_reducible rfl | simp only [zl, iz_add, iz_sub, iz_mul, iz_neg]) (y := (-6)) (b := (-6)) (by first | with_reducible rfl | simp only [zl, iz_add, iz_sub, iz_mul, iz_neg]) hs_7.1 hs_7.2
  refine ⟨fun c9 => ?_, fun c9 => ?_⟩
  · have hv := hv.1 (q_8.mp c9)
    obtain ⟨hc_9, hv⟩ := hv
    have e_10 : ((iz d_size) / 4) = iz (d_size / 4) := z_div (by first | with_reducible rfl | simp only [zl, iz_add, iz_sub, iz_mul, iz_neg]) hc_9 (by decide) (by decide)
    try rw [e_10]
    obtain ⟨hs_11, hv⟩ := hv
    have q_12 := z_le (x := ((iz q_passages) + (iz (d_size / 4)))) (a := (q_passages + (d_size / 4))) (by first | with_reducible rfl | simp only [zl, iz_add, iz_sub, iz_mul, iz_neg]) (y := 10) (b := 10) (by first | with_reducible rfl | simp only [zl, iz_add, iz_sub, iz_mul, iz_neg]) hs_11.1 hs_11.2
    refine ⟨fun c9 => ?_, fun c9 => ?_⟩
    · have hv := hv.1 (q_12.mp c9)
      refine lift_X1_moveInto (by first | with_reducible rfl | simp only [zl, iz_add, iz_sub, iz_mul, iz_neg]) (by first | with_reducible rfl | simp only [zl, iz_add, iz_sub, iz_mul, iz_neg]) (by first | with_reducible rfl | simp only [zl, iz_add, iz_sub, iz_mul, iz_neg]) (by first | with_reducible rfl | simp only [zl, iz_add, iz_sub, iz_mul, iz_neg]) (by first | with_reducible rfl | simp only [zl, iz_add, iz_sub, iz_mul, iz_neg]) (by first | with_reducible rfl | simp only [zl, iz_add, iz_sub, iz_mul, iz_neg]) (by first | with_reducible rfl | simp only [zl, iz_add, iz_sub, iz_mul, iz_neg]) (by first | with_reducible rfl | simp only [zl, iz_add, iz_sub, iz_mul, iz_neg]) hv (fun u_13 y_15 hv eu_17 => ?_)
      subst eu_17
      try dsimp only
      exact hp _ _ _ _ hv (by first | with_reducible rfl | simp only [zl, iz_add, iz_sub, iz_mul, iz_neg]) (by first | with_reducible rfl | simp only [zl, iz_add, iz_sub, iz_mul, iz_neg])
    · have hv := hv.2 (fun z9 => c9 (q_12.mpr z9))
      exact hp _ _ _ _ hv (by first | with_reducible rfl | simp only [zl, iz_add, iz_sub, iz_mul, iz_neg]) (by first | with_reducible rfl | simp only [zl, iz_add, iz_sub, iz_mul, iz_neg])
  · have hv := hv.2 (fun z9 => c9 (q_8.mpr z9))
    exact hp _ _ _ _ hv (by first | with_reducible rfl | simp only [zl, iz_add, iz_sub, iz_mul, iz_neg]) (by first | with_reducible rfl | simp only [zl, iz_add, iz_sub, iz_mul, iz_neg])

def iv_X4_of (a1 : Int) (a2 : Int) (q_passages : Int) (q_from : (Nat → Int)) (q_to : (Nat → Int)) (q_width : (Nat → Int)) (q_length : (Nat → Int)) (q_shut : (Nat → Int)) (post : Int → Unit → Prop) : Prop :=
  (iv_X4_isPassage a1 q_passages (fun (r_2 : Int) (u_1 : Unit) => ((sm r_2 ∧ sm 0) ∧ ((¬ r_2 = 0 → ((sm a2) ∧ ((a2 = 0 → ((0 ≤ a1 ∧ a1 < 10) ∧ post (q_from a1.toNat) ())) ∧ (a2 = 1 → ((0 ≤ a1 ∧ a1 < 10) ∧ post (q_to a1.toNat) ())) ∧ (a2 = 2 → ((0 ≤ a1 ∧ a1 < 10) ∧ post (q_width a1.toNat) ())) ∧ (a2 = 3 → ((0 ≤ a1 ∧ a1 < 10) ∧ post (q_length a1.toNat) ())) ∧ (a2 = 4 → (iv_X2_shutTickOrNone a1 q_shut (fun (r_19 : Int) (u_18 : Unit) => post r_19 ()))) ∧ (¬ a2 = 0 ∧ ¬ a2 = 1 ∧ ¬ a2 = 2 ∧ ¬ a2 = 3 ∧ ¬ a2 = 4 → post (-2) ())))) ∧ (r_2 = 0 → post (-1) ())))))

set_option maxHeartbeats 4000000 in
theorem lift_X4_of {a1' : Int32} {a1 : Int} {a2' : Int32} {a2 : Int} {q_passages' : Int32} {q_passages : Int} {q_from' : (Nat → Int32)} {q_from : (Nat → Int)} {q_to' : (Nat → Int32)} {q_to : (Nat → Int)} {q_width' : (Nat → Int32)} {q_width : (Nat → Int)} {q_length' : (Nat → Int32)} {q_length : (Nat → Int)} {q_shut' : (Nat → Int32)} {q_shut : (Nat → Int)} (e_a1 : a1' = iz a1) (e_a2 : a2' = iz a2) (e_q_passages : q_passages' = iz q_passages) (e_q_from : q_from' = az q_from) (e_q_to : q_to' = az q_to) (e_q_width : q_width' = az q_width) (e_q_length : q_length' = az q_length) (e_q_shut : q_shut' = az q_shut) {post0 : Int32 → Unit → Prop} {post : Int → Unit → Prop} (hv : iv_X4_of a1 a2 q_passages q_from q_to q_width q_length q_shut post) (hp : ∀ (r : Int) (u : Unit) (x : Int32) (y : Unit), post r u → x = iz r → y = () → post0 x y) : vc_X4_of a1' a2' q_passages' q_from' q_to' q_width' q_length' q_shut' post0 := by
  subst e_a1
  subst e_a2
  subst e_q_passages
  subst e_q_from
  subst e_q_to
  subst e_q_width
  subst e_q_length
  subst e_q_shut
  rw [iv_X4_of] at hv
  rw [vc_X4_of]
  refine lift_X4_isPassage (by first | with_reducible rfl | simp only [zl, iz_add, iz_sub, iz_mul, iz_neg]) (by first | with_reducible rfl | simp only [zl, iz_add, iz_sub, iz_mul, iz_neg]) hv (fun r_2 u_1 y_3 y_4 hv er_5 eu_6 => ?_)
  subst er_5; subst eu_6
  try dsimp only
  obtain ⟨hs_7, hv⟩ := hv
  have q_8 := z_eq (x := (iz r_2)) (a := r_2) (by first | with_reducible rfl | simp only [zl, iz_add, iz_sub, iz_mul, iz_neg]) (y := 0) (b := 0) (by first | with_reducible rfl | simp only [zl, iz_add, iz_sub, iz_mul, iz_neg]) hs_7.1 hs_7.2
  refine ⟨fun c9 => ?_, fun c9 => ?_⟩
  · have hv := hv.1 (fun z9 => c9 (q_8.mpr z9))
    obtain ⟨hc_9, hv⟩ := hv
    refine ⟨fun c9 => ?_, fun c9 => ?_, fun c9 => ?_, fun c9 => ?_, fun c9 => ?_, fun c9 => ?_⟩
    · have hv := hv.1 ((z_eq (x := (iz a2)) (y := 0) (a := a2) (b := 0) rfl rfl hc_9 (by unfold sm; omega)).mp c9)
      obtain ⟨hi_10, hv⟩ := hv
      refine ⟨z_in (by first | with_reducible rfl | simp only [zl, iz_add, iz_sub, iz_mul, iz_neg]) hi_10 (by decide), ?_⟩
      have e_11 : ((az q_from) ((iz a1)).toNatClampNeg) = iz (q_from a1.toNat) := z_at (by first | with_reducible rfl | simp only [zl, iz_add, iz_sub, iz_mul, iz_neg]) (by first | with_reducible rfl | simp only [zl, iz_add, iz_sub, iz_mul, iz_neg]) hi_10 (by decide)
      try rw [e_11]
      exact hp _ _ _ _ hv (by first | with_reducible rfl | simp only [zl, iz_add, iz_sub, iz_mul, iz_neg]) (by first | with_reducible rfl | simp only [zl, iz_add, iz_sub, iz_mul, iz_neg])
    · have hv := hv.2.1 ((z_eq (x := (iz a2)) (y := 1) (a := a2) (b := 1) rfl rfl hc_9 (by unfold sm; omega)).mp c9)
      obtain ⟨hi_12, hv⟩ := hv
      refine ⟨z_in (by first | with_reducible rfl | simp only [zl, iz_add, iz_sub, iz_mul, iz_neg]) hi_12 (by decide), ?_⟩
      have e_13 : ((az q_to) ((iz a1)).toNatClampNeg) = iz (q_to a1.toNat) := z_at (by first | with_reducible rfl | simp only [zl, iz_add, iz_sub, iz_mul, iz_neg]) (by first | with_reducible rfl | simp only [zl, iz_add, iz_sub, iz_mul, iz_neg]) hi_12 (by decide)
      try rw [e_13]
      exact hp _ _ _ _ hv (by first | with_reducible rfl | simp only [zl, iz_add, iz_sub, iz_mul, iz_neg]) (by first | with_reducible rfl | simp only [zl, iz_add, iz_sub, iz_mul, iz_neg])
    · have hv := hv.2.2.1 ((z_eq (x := (iz a2)) (y := 2) (a := a2) (b := 2) rfl rfl hc_9 (by unfold sm; omega)).mp c9)
      obtain ⟨hi_14, hv⟩ := hv
      refine ⟨z_in (by first | with_reducible rfl | simp only [zl, iz_add, iz_sub, iz_mul, iz_neg]) hi_14 (by decide), ?_⟩
      have e_15 : ((az q_width) ((iz a1)).toNatClampNeg) = iz (q_width a1.toNat) := z_at (by first | with_reducible rfl | simp only [zl, iz_add, iz_sub, iz_mul, iz_neg]) (by first | with_reducible rfl | simp only [zl, iz_add, iz_sub, iz_mul, iz_neg]) hi_14 (by decide)
      try rw [e_15]
      exact hp _ _ _ _ hv (by first | with_reducible rfl | simp only [zl, iz_add, iz_sub, iz_mul, iz_neg]) (by first | with_reducible rfl | simp only [zl, iz_add, iz_sub, iz_mul, iz_neg])
    · have hv := hv.2.2.2.1 ((z_eq (x := (iz a2)) (y := 3) (a := a2) (b := 3) rfl rfl hc_9 (by unfold sm; omega)).mp c9)
      obtain ⟨hi_16, hv⟩ := hv
      refine ⟨z_in (by first | with_reducible rfl | simp only [zl, iz_add, iz_sub, iz_mul, iz_neg]) hi_16 (by decide), ?_⟩
      have e_17 : ((az q_length) ((iz a1)).toNatClampNeg) = iz (q_length a1.toNat) := z_at (by first | with_reducible rfl | simp only [zl, iz_add, iz_sub, iz_mul, iz_neg]) (by first | with_reducible rfl | simp only [zl, iz_add, iz_sub, iz_mul, iz_neg]) hi_16 (by decide)
      try rw [e_17]
      exact hp _ _ _ _ hv (by first | with_reducible rfl | simp only [zl, iz_add, iz_sub, iz_mul, iz_neg]) (by first | with_reducible rfl | simp only [zl, iz_add, iz_sub, iz_mul, iz_neg])
    · have hv := hv.2.2.2.2.1 ((z_eq (x := (iz a2)) (y := 4) (a := a2) (b := 4) rfl rfl hc_9 (by unfold sm; omega)).mp c9)
      refine lift_X2_shutTickOrNone (by first | with_reducible rfl | simp only [zl, iz_add, iz_sub, iz_mul, iz_neg]) (by first | with_reducible rfl | simp only [zl, iz_add, iz_sub, iz_mul, iz_neg]) hv (fun r_19 u_18 y_20 y_21 hv er_22 eu_23 => ?_)
      subst er_22; subst eu_23
      try dsimp only
      exact hp _ _ _ _ hv (by first | with_reducible rfl | simp only [zl, iz_add, iz_sub, iz_mul, iz_neg]) (by first | with_reducible rfl | simp only [zl, iz_add, iz_sub, iz_mul, iz_neg])
    · have hv := hv.2.2.2.2.2 ⟨fun z9 => c9.1 ((z_eq (x := (iz a2)) (y := 0) (a := a2) (b := 0) rfl rfl hc_9 (by unfold sm; omega)).mpr z9), fun z9 => c9.2.1 ((z_eq (x := (iz a2)) (y := 1) (a := a2) (b := 1) rfl rfl hc_9 (by unfold sm; omega)).mpr z9), fun z9 => c9.2.2.1 ((z_eq (x := (iz a2)) (y := 2) (a := a2) (b := 2) rfl rfl hc_9 (by unfold sm; omega)).mpr z9), fun z9 => c9.2.2.2.1 ((z_eq (x := (iz a2)) (y := 3) (a := a2) (b := 3) rfl rfl hc_9 (by unfold sm; omega)).mpr z9), fun z9 => c9.2.2.2.2 ((z_eq (x := (iz a2)) (y := 4) (a := a2) (b := 4) rfl rfl hc_9 (by unfold sm; omega)).mpr z9)⟩
      exact hp _ _ _ _ hv (by first | with_reducible rfl | simp only [zl, iz_add, iz_sub, iz_mul, iz_neg]) (by first | with_reducible rfl | simp only [zl, iz_add, iz_sub, iz_mul, iz_neg])
  · have hv := hv.2 (q_8.mp c9)
    exact hp _ _ _ _ hv (by first | with_reducible rfl | simp only [zl, iz_add, iz_sub, iz_mul, iz_neg]) (by first | with_reducible rfl | simp only [zl, iz_add, iz_sub, iz_mul, iz_neg])

def iv_X4_out (a1 : Int) (q_people : (Nat → Int)) (q_safeRooms : Int) (q_passages : Int) (q_from : (Nat → Int)) (q_to : (Nat → Int)) (q_width : (Nat → Int)) (q_length : (Nat → Int)) (q_shut : (Nat → Int)) (f_lanes : Int) (f_from : (Nat → Int)) (f_to : (Nat → Int)) (f_width : (Nat → Int)) (f_length : (Nat → Int)) (f_shut : (Nat → Int)) (f_safeRooms : Int) (f_people : Int) (f_led : Int) (f_notLed : (Nat → Int)) (f_entering : (Nat → Int)) (f_latest : (Nat → Int)) (f_step : (Nat → Int)) (f_wayEntry : (Nat → Int)) (f_wayAhead : (Nat → Int)) (f_waySteps : Int) (f_wayWidth : Int) (post : Int → (Int × (Nat → Int) × (Nat → Int) × (Nat → Int) × (Nat → Int) × (Nat → Int) × Int × Int × Int × (Nat → Int) × (Nat → Int) × (Nat → Int) × (Nat → Int) × (Nat → Int) × (Nat → Int) × Int × Int) → Prop) : Prop :=
  (iv_X4_isWithin a1 0 60 (fun (r_2 : Int) (u_1 : Unit) => ((sm r_2 ∧ sm 0) ∧ ((¬ r_2 = 0 → (iv_X0_begin f_lanes f_from f_to f_width f_length f_shut f_safeRooms f_people f_led f_notLed f_entering q_people q_safeRooms q_passages q_from q_to q_width q_length q_shut (fun (u_9 : Int × (Nat → Int) × (Nat → Int) × (Nat → Int) × (Nat → Int) × (Nat → Int) × Int × Int × Int × (Nat → Int) × (Nat → Int)) => (iv_X0_leadBy a1 u_9.1 u_9.2.1 u_9.2.2.1 u_9.2.2.2.1 u_9.2.2.2.2.1 u_9.2.2.2.2.2.1 u_9.2.2.2.2.2.2.1 u_9.2.2.2.2.2.2.2.1 u_9.2.2.2.2.2.2.2.2.1 u_9.2.2.2.2.2.2.2.2.2.1 u_9.2.2.2.2.2.2.2.2.2.2 f_latest f_step f_wayEntry f_wayAhead f_waySteps f_wayWidth (fun (r_15 : Int) (u_14 : Int × (Nat → Int) × (Nat → Int) × (Nat → Int) × (Nat → Int) × (Nat → Int) × (Nat → Int) × Int × Int) => post r_15 (u_9.1, u_9.2.1, u_9.2.2.1, u_9.2.2.2.1, u_9.2.2.2.2.1, u_9.2.2.2.2.2.1, u_9.2.2.2.2.2.2.1, u_9.2.2.2.2.2.2.2.1, u_14.1, u_14.2.1, u_14.2.2.1, u_14.2.2.2.1, u_14.2.2.2.2.1, u_14.2.2.2.2.2.1, u_14.2.2.2.2.2.2.1, u_14.2.2.2.2.2.2.2.1, u_14.2.2.2.2.2.2.2.2)))))) ∧ (r_2 = 0 → post (-2) (f_lanes, f_from, f_to, f_width, f_length, f_shut, f_safeRooms, f_people, f_led, f_notLed, f_entering, f_latest, f_step, f_wayEntry, f_wayAhead, f_waySteps, f_wayWidth))))))

set_option maxHeartbeats 4000000 in
theorem lift_X4_out {a1' : Int32} {a1 : Int} {q_people' : (Nat → Int32)} {q_people : (Nat → Int)} {q_safeRooms' : Int32} {q_safeRooms : Int} {q_passages' : Int32} {q_passages : Int} {q_from' : (Nat → Int32)} {q_from : (Nat → Int)} {q_to' : (Nat → Int32)} {q_to : (Nat → Int)} {q_width' : (Nat → Int32)} {q_width : (Nat → Int)} {q_length' : (Nat → Int32)} {q_length : (Nat → Int)} {q_shut' : (Nat → Int32)} {q_shut : (Nat → Int)} {f_lanes' : Int32} {f_lanes : Int} {f_from' : (Nat → Int32)} {f_from : (Nat → Int)} {f_to' : (Nat → Int32)} {f_to : (Nat → Int)} {f_width' : (Nat → Int32)} {f_width : (Nat → Int)} {f_length' : (Nat → Int32)} {f_length : (Nat → Int)} {f_shut' : (Nat → Int32)} {f_shut : (Nat → Int)} {f_safeRooms' : Int32} {f_safeRooms : Int} {f_people' : Int32} {f_people : Int} {f_led' : Int32} {f_led : Int} {f_notLed' : (Nat → Int32)} {f_notLed : (Nat → Int)} {f_entering' : (Nat → Int32)} {f_entering : (Nat → Int)} {f_latest' : (Nat → Int32)} {f_latest : (Nat → Int)} {f_step' : (Nat → Int32)} {f_step : (Nat → Int)} {f_wayEntry' : (Nat → Int32)} {f_wayEntry : (Nat → Int)} {f_wayAhead' : (Nat → Int32)} {f_wayAhead : (Nat → Int)} {f_waySteps' : Int32} {f_waySteps : Int} {f_wayWidth' : Int32} {f_wayWidth : Int} (e_a1 : a1' = iz a1) (e_q_people : q_people' = az q_people) (e_q_safeRooms : q_safeRooms' = iz q_safeRooms) (e_q_passages : q_passages' = iz q_passages) (e_q_from : q_from' = az q_from) (e_q_to : q_to' = az q_to) (e_q_width : q_width' = az q_width) (e_q_length : q_length' = az q_length) (e_q_shut : q_shut' = az q_shut) (e_f_lanes : f_lanes' = iz f_lanes) (e_f_from : f_from' = az f_from) (e_f_to : f_to' = az f_to) (e_f_width : f_width' = az f_width) (e_f_length : f_length' = az f_length) (e_f_shut : f_shut' = az f_shut) (e_f_safeRooms : f_safeRooms' = iz f_safeRooms) (e_f_people : f_people' = iz f_people) (e_f_led : f_led' = iz f_led) (e_f_notLed : f_notLed' = az f_notLed) (e_f_entering : f_entering' = az f_entering) (e_f_latest : f_latest' = az f_latest) (e_f_step : f_step' = az f_step) (e_f_wayEntry : f_wayEntry' = az f_wayEntry) (e_f_wayAhead : f_wayAhead' = az f_wayAhead) (e_f_waySteps : f_waySteps' = iz f_waySteps) (e_f_wayWidth : f_wayWidth' = iz f_wayWidth) {post0 : Int32 → (Int32 × (Nat → Int32) × (Nat → Int32) × (Nat → Int32) × (Nat → Int32) × (Nat → Int32) × Int32 × Int32 × Int32 × (Nat → Int32) × (Nat → Int32) × (Nat → Int32) × (Nat → Int32) × (Nat → Int32) × (Nat → Int32) × Int32 × Int32) → Prop} {post : Int → (Int × (Nat → Int) × (Nat → Int) × (Nat → Int) × (Nat → Int) × (Nat → Int) × Int × Int × Int × (Nat → Int) × (Nat → Int) × (Nat → Int) × (Nat → Int) × (Nat → Int) × (Nat → Int) × Int × Int) → Prop} (hv : iv_X4_out a1 q_people q_safeRooms q_passages q_from q_to q_width q_length q_shut f_lanes f_from f_to f_width f_length f_shut f_safeRooms f_people f_led f_notLed f_entering f_latest f_step f_wayEntry f_wayAhead f_waySteps f_wayWidth post) (hp : ∀ (r : Int) (u : Int × (Nat → Int) × (Nat → Int) × (Nat → Int) × (Nat → Int) × (Nat → Int) × Int × Int × Int × (Nat → Int) × (Nat → Int) × (Nat → Int) × (Nat → Int) × (Nat → Int) × (Nat → Int) × Int × Int) (x : Int32) (y : Int32 × (Nat → Int32) × (Nat → Int32) × (Nat → Int32) × (Nat → Int32) × (Nat → Int32) × Int32 × Int32 × Int32 × (Nat → Int32) × (Nat → Int32) × (Nat → Int32) × (Nat → Int32) × (Nat → Int32) × (Nat → Int32) × Int32 × Int32), post r u → x = iz r → y = (iz u.1, az u.2.1, az u.2.2.1, az u.2.2.2.1, az u.2.2.2.2.1, az u.2.2.2.2.2.1, iz u.2.2.2.2.2.2.1, iz u.2.2.2.2.2.2.2.1, iz u.2.2.2.2.2.2.2.2.1, az u.2.2.2.2.2.2.2.2.2.1, az u.2.2.2.2.2.2.2.2.2.2.1, az u.2.2.2.2.2.2.2.2.2.2.2.1, az u.2.2.2.2.2.2.2.2.2.2.2.2.1, az u.2.2.2.2.2.2.2.2.2.2.2.2.2.1, az u.2.2.2.2.2.2.2.2.2.2.2.2.2.2.1, iz u.2.2.2.2.2.2.2.2.2.2.2.2.2.2.2.1, iz u.2.2.2.2.2.2.2.2.2.2.2.2.2.2.2.2) → post0 x y) : vc_X4_out a1' q_people' q_safeRooms' q_passages' q_from' q_to' q_width' q_length' q_shut' f_lanes' f_from' f_to' f_width' f_length' f_shut' f_safeRooms' f_people' f_led' f_notLed' f_entering' f_latest' f_step' f_wayEntry' f_wayAhead' f_waySteps' f_wayWidth' post0 := by
  subst e_a1
  subst e_q_people
  subst e_q_safeRooms
  subst e_q_passages
  subst e_q_from
  subst e_q_to
  subst e_q_width
  subst e_q_length
  subst e_q_shut
  subst e_f_lanes
  subst e_f_from
  subst e_f_to
  subst e_f_width
  subst e_f_length
  subst e_f_shut
  subst e_f_safeRooms
  subst e_f_people
  subst e_f_led
  subst e_f_notLed
  subst e_f_entering
  subst e_f_latest
  subst e_f_step
  subst e_f_wayEntry
  subst e_f_wayAhead
  subst e_f_waySteps
  subst e_f_wayWidth
  rw [iv_X4_out] at hv
  rw [vc_X4_out]
  refine lift_X4_isWithin (by first | with_reducible rfl | simp only [zl, iz_add, iz_sub, iz_mul, iz_neg]) (by first | with_reducible rfl | simp only [zl, iz_add, iz_sub, iz_mul, iz_neg]) (by first | with_reducible rfl | simp only [zl, iz_add, iz_sub, iz_mul, iz_neg]) hv (fun r_2 u_1 y_3 y_4 hv er_5 eu_6 => ?_)
  subst er_5; subst eu_6
  try dsimp only
  obtain ⟨hs_7, hv⟩ := hv
  have q_8 := z_eq (x := (iz r_2)) (a := r_2) (by first | with_reducible rfl | simp only [zl, iz_add, iz_sub, iz_mul, iz_neg]) (y := 0) (b := 0) (by first | with_reducible rfl | simp only [zl, iz_add, iz_sub, iz_mul, iz_neg]) hs_7.1 hs_7.2
  refine ⟨fun c9 => ?_, fun c9 => ?_⟩
  · have hv := hv.1 (fun z9 => c9 (q_8.mpr z9))
    refine lift_X0_begin (by first | with_reducible rfl | simp only [zl, iz_add, iz_sub, iz_mul, iz_neg]) (by first | with_reducible rfl | simp only [zl, iz_add, iz_sub, iz_mul, iz_neg]) (by first | with_reducible rfl | simp only [zl, iz_add, iz_sub, iz_mul, iz_neg]) (by first | with_reducible rfl | simp only [zl, iz_add, iz_sub, iz_mul, iz_neg]) (by first | with_reducible rfl | simp only [zl, iz_add, iz_sub, iz_mul, iz_neg]) (by first | with_reducible rfl | simp only [zl, iz_add, iz_sub, iz_mul, iz_neg]) (by first | with_reducible rfl | simp only [zl, iz_add, iz_sub, iz_mul, iz_neg]) (by first | with_reducible rfl | simp only [zl, iz_add, iz_sub, iz_mul, iz_neg]) (by first | with_reducible rfl | simp only [zl, iz_add, iz_sub, iz_mul, iz_neg]) (by first | with_reducible rfl | simp only [zl, iz_add, iz_sub, iz_mul, iz_neg]) (by first | with_reducible rfl | simp only [zl, iz_add, iz_sub, iz_mul, iz_neg]) (by first | with_reducible rfl | simp only [zl, iz_add, iz_sub, iz_mul, iz_neg]) (by first | with_reducible rfl | simp only [zl, iz_add, iz_sub, iz_mul, iz_neg]) (by first | with_reducible rfl | simp only [zl, iz_add, iz_sub, iz_mul, iz_neg]) (by first | with_reducible rfl | simp only [zl, iz_add, iz_sub, iz_mul, iz_neg]) (by first | with_reducible rfl | simp only [zl, iz_add, iz_sub, iz_mul, iz_neg]) (by first | with_reducible rfl | simp only [zl, iz_add, iz_sub, iz_mul, iz_neg]) (by first | with_reducible rfl | simp only [zl, iz_add, iz_sub, iz_mul, iz_neg]) (by first | with_reducible rfl | simp only [zl, iz_add, iz_sub, iz_mul, iz_neg]) hv (fun u_9 y_11 hv eu_13 => ?_)
    subst eu_13
    try dsimp only
    refine lift_X0_leadBy (by first | with_reducible rfl | simp only [zl, iz_add, iz_sub, iz_mul, iz_neg]) (by first | with_reducible rfl | simp only [zl, iz_add, iz_sub, iz_mul, iz_neg]) (by first | with_reducible rfl | simp only [zl, iz_add, iz_sub, iz_mul, iz_neg]) (by first | with_reducible rfl | simp only [zl, iz_add, iz_sub, iz_mul, iz_neg]) (by first | with_reducible rfl | simp only [zl, iz_add, iz_sub, iz_mul, iz_neg]) (by first | with_reducible rfl | simp only [zl, iz_add, iz_sub, iz_mul, iz_neg]) (by first | with_reducible rfl | simp only [zl, iz_add, iz_sub, iz_mul, iz_neg]) (by first | with_reducible rfl | simp only [zl, iz_add, iz_sub, iz_mul, iz_neg]) (by first | with_reducible rfl | simp only [zl, iz_add, iz_sub, iz_mul, iz_neg]) (by first | with_reducible rfl | simp only [zl, iz_add, iz_sub, iz_mul, iz_neg]) (by first | with_reducible rfl | simp only [zl, iz_add, iz_sub, iz_mul, iz_neg]) (by first | with_reducible rfl | simp only [zl, iz_add, iz_sub, iz_mul, iz_neg]) (by first | with_reducible rfl | simp only [zl, iz_add, iz_sub, iz_mul, iz_neg]) (by first | with_reducible rfl | simp only [zl, iz_add, iz_sub, iz_mul, iz_neg]) (by first | with_reducible rfl | simp only [zl, iz_add, iz_sub, iz_mul, iz_neg]) (by first | with_reducible rfl | simp only [zl, iz_add, iz_sub, iz_mul, iz_neg]) (by first | with_reducible rfl | simp only [zl, iz_add, iz_sub, iz_mul, iz_neg]) (by first | with_reducible rfl | simp only [zl, iz_add, iz_sub, iz_mul, iz_neg]) hv (fun r_15 u_14 y_16 y_17 hv er_18 eu_19 => ?_)
    subst er_18; subst eu_19
    try dsimp only
    exact hp _ _ _ _ hv (by first | with_reducible rfl | simp only [zl, iz_add, iz_sub, iz_mul, iz_neg]) (by first | with_reducible rfl | simp only [zl, iz_add, iz_sub, iz_mul, iz_neg])
  · have hv := hv.2 (q_8.mp c9)
    exact hp _ _ _ _ hv (by first | with_reducible rfl | simp only [zl, iz_add, iz_sub, iz_mul, iz_neg]) (by first | with_reducible rfl | simp only [zl, iz_add, iz_sub, iz_mul, iz_neg])

def iv_X4_leadAll_L13 (K : Int → (Nat → Int) → (Nat → Int) → (Nat → Int) → (Nat → Int) → (Nat → Int) → (Nat → Int) → Int → Int → Prop) (post : Int → (Int × (Nat → Int) × (Nat → Int) × (Nat → Int) × (Nat → Int) × (Nat → Int) × Int × Int × Int × (Nat → Int) × (Nat → Int) × (Nat → Int) × (Nat → Int) × (Nat → Int) × (Nat → Int) × Int × Int) → Prop) (f_lanes : Int) (f_from : (Nat → Int)) (f_to : (Nat → Int)) (f_width : (Nat → Int)) (f_length : (Nat → Int)) (f_shut : (Nat → Int)) (f_safeRooms : Int) (f_people : Int) : Nat → Int → Int → (Nat → Int) → (Nat → Int) → (Nat → Int) → (Nat → Int) → (Nat → Int) → (Nat → Int) → Int → Int → Prop
  | 0, _, _, _, _, _, _, _, _, _, _ => False
  | n + 1, v1, f_led, f_notLed, f_entering, f_latest, f_step, f_wayEntry, f_wayAhead, f_waySteps, f_wayWidth =>
    ((sm 60 ∧ sm v1) ∧ ((60 < v1 → K f_led f_notLed f_entering f_latest f_step f_wayEntry f_wayAhead f_waySteps f_wayWidth) ∧ (¬ 60 < v1 → (iv_X0_leadsAllBy v1 f_lanes f_from f_to f_width f_length f_shut f_safeRooms f_people f_led f_notLed f_entering f_latest f_step f_wayEntry f_wayAhead f_waySteps f_wayWidth (fun (r_9 : Int) (u_8 : Int × (Nat → Int) × (Nat → Int) × (Nat → Int) × (Nat → Int) × (Nat → Int) × (Nat → Int) × Int × Int) => ((sm r_9 ∧ sm 0) ∧ ((r_9 = 0 → (∀ x1_16 : Int, x1_16 = v1 + 1 → iv_X4_leadAll_L13 K post f_lanes f_from f_to f_width f_length f_shut f_safeRooms f_people n x1_16 u_8.1 u_8.2.1 u_8.2.2.1 u_8.2.2.2.1 u_8.2.2.2.2.1 u_8.2.2.2.2.2.1 u_8.2.2.2.2.2.2.1 u_8.2.2.2.2.2.2.2.1 u_8.2.2.2.2.2.2.2.2)) ∧ (¬ r_9 = 0 → post v1 (f_lanes, f_from, f_to, f_width, f_length, f_shut, f_safeRooms, f_people, u_8.1, u_8.2.1, u_8.2.2.1, u_8.2.2.2.1, u_8.2.2.2.2.1, u_8.2.2.2.2.2.1, u_8.2.2.2.2.2.2.1, u_8.2.2.2.2.2.2.2.1, u_8.2.2.2.2.2.2.2.2)))))))))

set_option maxHeartbeats 4000000 in
theorem lift_X4_leadAll_L13 {K0 : Int32 → (Nat → Int32) → (Nat → Int32) → (Nat → Int32) → (Nat → Int32) → (Nat → Int32) → (Nat → Int32) → Int32 → Int32 → Prop} {K : Int → (Nat → Int) → (Nat → Int) → (Nat → Int) → (Nat → Int) → (Nat → Int) → (Nat → Int) → Int → Int → Prop} {post0 : Int32 → (Int32 × (Nat → Int32) × (Nat → Int32) × (Nat → Int32) × (Nat → Int32) × (Nat → Int32) × Int32 × Int32 × Int32 × (Nat → Int32) × (Nat → Int32) × (Nat → Int32) × (Nat → Int32) × (Nat → Int32) × (Nat → Int32) × Int32 × Int32) → Prop} {post : Int → (Int × (Nat → Int) × (Nat → Int) × (Nat → Int) × (Nat → Int) × (Nat → Int) × Int × Int × Int × (Nat → Int) × (Nat → Int) × (Nat → Int) × (Nat → Int) × (Nat → Int) × (Nat → Int) × Int × Int) → Prop} {f_lanes' : Int32} {f_lanes : Int} {f_from' : (Nat → Int32)} {f_from : (Nat → Int)} {f_to' : (Nat → Int32)} {f_to : (Nat → Int)} {f_width' : (Nat → Int32)} {f_width : (Nat → Int)} {f_length' : (Nat → Int32)} {f_length : (Nat → Int)} {f_shut' : (Nat → Int32)} {f_shut : (Nat → Int)} {f_safeRooms' : Int32} {f_safeRooms : Int} {f_people' : Int32} {f_people : Int} (e_f_lanes : f_lanes' = iz f_lanes) (e_f_from : f_from' = az f_from) (e_f_to : f_to' = az f_to) (e_f_width : f_width' = az f_width) (e_f_length : f_length' = az f_length) (e_f_shut : f_shut' = az f_shut) (e_f_safeRooms : f_safeRooms' = iz f_safeRooms) (e_f_people : f_people' = iz f_people)  (hKx : ∀ (k_f_led' : Int32) (k_f_notLed' : (Nat → Int32)) (k_f_entering' : (Nat → Int32)) (k_f_latest' : (Nat → Int32)) (k_f_step' : (Nat → Int32)) (k_f_wayEntry' : (Nat → Int32)) (k_f_wayAhead' : (Nat → Int32)) (k_f_waySteps' : Int32) (k_f_wayWidth' : Int32) (k_f_led : Int) (k_f_notLed : (Nat → Int)) (k_f_entering : (Nat → Int)) (k_f_latest : (Nat → Int)) (k_f_step : (Nat → Int)) (k_f_wayEntry : (Nat → Int)) (k_f_wayAhead : (Nat → Int)) (k_f_waySteps : Int) (k_f_wayWidth : Int), K k_f_led k_f_notLed k_f_entering k_f_latest k_f_step k_f_wayEntry k_f_wayAhead k_f_waySteps k_f_wayWidth → k_f_led' = iz k_f_led → k_f_notLed' = az k_f_notLed → k_f_entering' = az k_f_entering → k_f_latest' = az k_f_latest → k_f_step' = az k_f_step → k_f_wayEntry' = az k_f_wayEntry → k_f_wayAhead' = az k_f_wayAhead → k_f_waySteps' = iz k_f_waySteps → k_f_wayWidth' = iz k_f_wayWidth →  K0 k_f_led' k_f_notLed' k_f_entering' k_f_latest' k_f_step' k_f_wayEntry' k_f_wayAhead' k_f_waySteps' k_f_wayWidth') (hp : ∀ (r : Int) (u : Int × (Nat → Int) × (Nat → Int) × (Nat → Int) × (Nat → Int) × (Nat → Int) × Int × Int × Int × (Nat → Int) × (Nat → Int) × (Nat → Int) × (Nat → Int) × (Nat → Int) × (Nat → Int) × Int × Int) (x : Int32) (y : Int32 × (Nat → Int32) × (Nat → Int32) × (Nat → Int32) × (Nat → Int32) × (Nat → Int32) × Int32 × Int32 × Int32 × (Nat → Int32) × (Nat → Int32) × (Nat → Int32) × (Nat → Int32) × (Nat → Int32) × (Nat → Int32) × Int32 × Int32), post r u → x = iz r → y = (iz u.1, az u.2.1, az u.2.2.1, az u.2.2.2.1, az u.2.2.2.2.1, az u.2.2.2.2.2.1, iz u.2.2.2.2.2.2.1, iz u.2.2.2.2.2.2.2.1, iz u.2.2.2.2.2.2.2.2.1, az u.2.2.2.2.2.2.2.2.2.1, az u.2.2.2.2.2.2.2.2.2.2.1, az u.2.2.2.2.2.2.2.2.2.2.2.1, az u.2.2.2.2.2.2.2.2.2.2.2.2.1, az u.2.2.2.2.2.2.2.2.2.2.2.2.2.1, az u.2.2.2.2.2.2.2.2.2.2.2.2.2.2.1, iz u.2.2.2.2.2.2.2.2.2.2.2.2.2.2.2.1, iz u.2.2.2.2.2.2.2.2.2.2.2.2.2.2.2.2) → post0 x y) :
    ∀ (n : Nat) (v1' : Int32) (f_led' : Int32) (f_notLed' : (Nat → Int32)) (f_entering' : (Nat → Int32)) (f_latest' : (Nat → Int32)) (f_step' : (Nat → Int32)) (f_wayEntry' : (Nat → Int32)) (f_wayAhead' : (Nat → Int32)) (f_waySteps' : Int32) (f_wayWidth' : Int32) (v1 : Int) (f_led : Int) (f_notLed : (Nat → Int)) (f_entering : (Nat → Int)) (f_latest : (Nat → Int)) (f_step : (Nat → Int)) (f_wayEntry : (Nat → Int)) (f_wayAhead : (Nat → Int)) (f_waySteps : Int) (f_wayWidth : Int) (e_v1 : v1' = iz v1) (e_f_led : f_led' = iz f_led) (e_f_notLed : f_notLed' = az f_notLed) (e_f_entering : f_entering' = az f_entering) (e_f_latest : f_latest' = az f_latest) (e_f_step : f_step' = az f_step) (e_f_wayEntry : f_wayEntry' = az f_wayEntry) (e_f_wayAhead : f_wayAhead' = az f_wayAhead) (e_f_waySteps : f_waySteps' = iz f_waySteps) (e_f_wayWidth : f_wayWidth' = iz f_wayWidth), iv_X4_leadAll_L13 K post f_lanes f_from f_to f_width f_length f_shut f_safeRooms f_people n v1 f_led f_notLed f_entering f_latest f_step f_wayEntry f_wayAhead f_waySteps f_wayWidth → vc_X4_leadAll_L13 K0 post0 f_lanes' f_from' f_to' f_width' f_length' f_shut' f_safeRooms' f_people' n v1' f_led' f_notLed' f_entering' f_latest' f_step' f_wayEntry' f_wayAhead' f_waySteps' f_wayWidth' := by
  subst e_f_lanes
  subst e_f_from
  subst e_f_to
  subst e_f_width
  subst e_f_length
  subst e_f_shut
  subst e_f_safeRooms
  subst e_f_people
  intro n
  induction n with
  | zero =>
    intro v1' f_led' f_notLed' f_entering' f_latest' f_step' f_wayEntry' f_wayAhead' f_waySteps' f_wayWidth' v1 f_led f_notLed f_entering f_latest f_step f_wayEntry f_wayAhead f_waySteps f_wayWidth e_v1 e_f_led e_f_notLed e_f_entering e_f_latest e_f_step e_f_wayEntry e_f_wayAhead e_f_waySteps e_f_wayWidth hv
    exact False.elim hv
  | succ n ih =>
    intro v1' f_led' f_notLed' f_entering' f_latest' f_step' f_wayEntry' f_wayAhead' f_waySteps' f_wayWidth' v1 f_led f_notLed f_entering f_latest f_step f_wayEntry f_wayAhead f_waySteps f_wayWidth e_v1 e_f_led e_f_notLed e_f_entering e_f_latest e_f_step e_f_wayEntry e_f_wayAhead e_f_waySteps e_f_wayWidth hv
    subst e_v1
    subst e_f_led
    subst e_f_notLed
    subst e_f_entering
    subst e_f_latest
    subst e_f_step
    subst e_f_wayEntry
    subst e_f_wayAhead
    subst e_f_waySteps
    subst e_f_wayWidth
    rw [iv_X4_leadAll_L13] at hv
    rw [vc_X4_leadAll_L13]
    obtain ⟨hs_6, hv⟩ := hv
    have q_7 := z_lt (x := 60) (a := 60) (by first | with_reducible rfl | simp only [zl, iz_add, iz_sub, iz_mul, iz_neg]) (y := (iz v1)) (b := v1) (by first | with_reducible rfl | simp only [zl, iz_add, iz_sub, iz_mul, iz_neg]) hs_6.1 hs_6.2
    refine ⟨fun c9 => ?_, fun c9 => ?_⟩
    · have hv := hv.1 (q_7.mp c9)
      exact hKx _ _ _ _ _ _ _ _ _ f_led f_notLed f_entering f_latest f_step f_wayEntry f_wayAhead f_waySteps f_wayWidth hv (by first | with_reducible rfl | simp only [zl, iz_add, iz_sub, iz_mul, iz_neg]) (by first | with_reducible rfl | simp only [zl, iz_add, iz_sub, iz_mul, iz_neg]) (by first | with_reducible rfl | simp only [zl, iz_add, iz_sub, iz_mul, iz_neg]) (by first | with_reducible rfl | simp only [zl, iz_add, iz_sub, iz_mul, iz_neg]) (by first | with_reducible rfl | simp only [zl, iz_add, iz_sub, iz_mul, iz_neg]) (by first | with_reducible rfl | simp only [zl, iz_add, iz_sub, iz_mul, iz_neg]) (by first | with_reducible rfl | simp only [zl, iz_add, iz_sub, iz_mul, iz_neg]) (by first | with_reducible rfl | simp only [zl, iz_add, iz_sub, iz_mul, iz_neg]) (by first | with_reducible rfl | simp only [zl, iz_add, iz_sub, iz_mul, iz_neg])
    · have hv := hv.2 (fun z9 => c9 (q_7.mpr z9))
      refine lift_X0_leadsAllBy (by first | with_reducible rfl | simp only [zl, iz_add, iz_sub, iz_mul, iz_neg]) (by first | with_reducible rfl | simp only [zl, iz_add, iz_sub, iz_mul, iz_neg]) (by first | with_reducible rfl | simp only [zl, iz_add, iz_sub, iz_mul, iz_neg]) (by first | with_reducible rfl | simp only [zl, iz_add, iz_sub, iz_mul, iz_neg]) (by first | with_reducible rfl | simp only [zl, iz_add, iz_sub, iz_mul, iz_neg]) (by first | with_reducible rfl | simp only [zl, iz_add, iz_sub, iz_mul, iz_neg]) (by first | with_reducible rfl | simp only [zl, iz_add, iz_sub, iz_mul, iz_neg]) (by first | with_reducible rfl | simp only [zl, iz_add, iz_sub, iz_mul, iz_neg]) (by first | with_reducible rfl | simp only [zl, iz_add, iz_sub, iz_mul, iz_neg]) (by first | with_reducible rfl | simp only [zl, iz_add, iz_sub, iz_mul, iz_neg]) (by first | with_reducible rfl | simp only [zl, iz_add, iz_sub, iz_mul, iz_neg]) (by first | with_reducible rfl | simp only [zl, iz_add, iz_sub, iz_mul, iz_neg]) (by first | with_reducible rfl | simp only [zl, iz_add, iz_sub, iz_mul, iz_neg]) (by first | with_reducible rfl | simp only [zl, iz_add, iz_sub, iz_mul, iz_neg]) (by first | with_reducible rfl | simp only [zl, iz_add, iz_sub, iz_mul, iz_neg]) (by first | with_reducible rfl | simp only [zl, iz_add, iz_sub, iz_mul, iz_neg]) (by first | with_reducible rfl | simp only [zl, iz_add, iz_sub, iz_mul, iz_neg]) (by first | with_reducible rfl | simp only [zl, iz_add, iz_sub, iz_mul, iz_neg]) hv (fun r_9 u_8 y_10 y_11 hv er_12 eu_13 => ?_)
      subst er_12; subst eu_13
      try dsimp only
      obtain ⟨hs_14, hv⟩ := hv
      have q_15 := z_eq (x := (iz r_9)) (a := r_9) (by first | with_reducible rfl | simp only [zl, iz_add, iz_sub, iz_mul, iz_neg]) (y := 0) (b := 0) (by first | with_reducible rfl | simp only [zl, iz_add, iz_sub, iz_mul, iz_neg]) hs_14.1 hs_14.2
      refine ⟨fun c9 => ?_, fun c9 => ?_⟩
      · have hv := hv.1 (q_15.mp c9)
        intro y_17 hy_17
        obtain ⟨x1_16, hx1_16⟩ : ∃ z : Int, z = v1 + 1 := ⟨_, rfl⟩
        have hv := hv x1_16 hx1_16
        have ey_17 : y_17 = iz x1_16 := by rw [hy_17, hx1_16]; try exact (by first | with_reducible rfl | simp only [zl, iz_add, iz_sub, iz_mul, iz_neg])
        subst ey_17
        exact ih _ _ _ _ _ _ _ _ _ _ x1_16 u_8.1 u_8.2.1 u_8.2.2.1 u_8.2.2.2.1 u_8.2.2.2.2.1 u_8.2.2.2.2.2.1 u_8.2.2.2.2.2.2.1 u_8.2.2.2.2.2.2.2.1 u_8.2.2.2.2.2.2.2.2 (by first | with_reducible rfl | simp only [zl, iz_add, iz_sub, iz_mul, iz_neg]) (by first | with_reducible rfl | simp only [zl, iz_add, iz_sub, iz_mul, iz_neg]) (by first | with_reducible rfl | simp only [zl, iz_add, iz_sub, iz_mul, iz_neg]) (by first | with_reducible rfl | simp only [zl, iz_add, iz_sub, iz_mul, iz_neg]) (by first | with_reducible rfl | simp only [zl, iz_add, iz_sub, iz_mul, iz_neg]) (by first | with_reducible rfl | simp only [zl, iz_add, iz_sub, iz_mul, iz_neg]) (by first | with_reducible rfl | simp only [zl, iz_add, iz_sub, iz_mul, iz_neg]) (by first | with_reducible rfl | simp only [zl, iz_add, iz_sub, iz_mul, iz_neg]) (by first | with_reducible rfl | simp only [zl, iz_add, iz_sub, iz_mul, iz_neg]) (by first | with_reducible rfl | simp only [zl, iz_add, iz_sub, iz_mul, iz_neg]) hv
      · have hv := hv.2 (fun z9 => c9 (q_15.mpr z9))
        exact hp _ _ _ _ hv (by first | with_reducible rfl | simp only [zl, iz_add, iz_sub, iz_mul, iz_neg]) (by first | with_reducible rfl | simp only [zl, iz_add, iz_sub, iz_mul, iz_neg])

def iv_X4_leadAll (q_people : (Nat → Int)) (q_safeRooms : Int) (q_passages : Int) (q_from : (Nat → Int)) (q_to : (Nat → Int)) (q_width : (Nat → Int)) (q_length : (Nat → Int)) (q_shut : (Nat → Int)) (f_lanes : Int) (f_from : (Nat → Int)) (f_to : (Nat → Int)) (f_width : (Nat → Int)) (f_length : (Nat → Int)) (f_shut : (Nat → Int)) (f_safeRooms : Int) (f_people : Int) (f_led : Int) (f_notLed : (Nat → Int)) (f_entering : (Nat → Int)) (f_latest : (Nat → Int)) (f_step : (Nat → Int)) (f_wayEntry : (Nat → Int)) (f_wayAhead : (Nat → Int)) (f_waySteps : Int) (f_wayWidth : Int) (post : Int → (Int × (Nat → Int) × (Nat → Int) × (Nat → Int) × (Nat → Int) × (Nat → Int) × Int × Int × Int × (Nat → Int) × (Nat → Int) × (Nat → Int) × (Nat → Int) × (Nat → Int) × (Nat → Int) × Int × Int) → Prop) : Prop :=
  (iv_X0_begin f_lanes f_from f_to f_width f_length f_shut f_safeRooms f_people f_led f_notLed f_entering q_people q_safeRooms q_passages q_from q_to q_width q_length q_shut (fun (u_1 : Int × (Nat → Int) × (Nat → Int) × (Nat → Int) × (Nat → Int) × (Nat → Int) × Int × Int × Int × (Nat → Int) × (Nat → Int)) => (∃ n_27, iv_X4_leadAll_L13 (fun f_led_18 f_notLed_19 f_entering_20 f_latest_21 f_step_22 f_wayEntry_23 f_wayAhead_24 f_waySteps_25 f_wayWidth_26 => post (-6) (u_1.1, u_1.2.1, u_1.2.2.1, u_1.2.2.2.1, u_1.2.2.2.2.1, u_1.2.2.2.2.2.1, u_1.2.2.2.2.2.2.1, u_1.2.2.2.2.2.2.2.1, f_led_18, f_notLed_19, f_entering_20, f_latest_21, f_step_22, f_wayEntry_23, f_wayAhead_24, f_waySteps_25, f_wayWidth_26)) post u_1.1 u_1.2.1 u_1.2.2.1 u_1.2.2.2.1 u_1.2.2.2.2.1 u_1.2.2.2.2.2.1 u_1.2.2.2.2.2.2.1 u_1.2.2.2.2.2.2.2.1 n_27 0 u_1.2.2.2.2.2.2.2.2.1 u_1.2.2.2.2.2.2.2.2.2.1 u_1.2.2.2.2.2.2.2.2.2.2 f_latest f_step f_wayEntry f_wayAhead f_waySteps f_wayWidth)))

set_option maxHeartbeats 4000000 in
theorem lift_X4_leadAll {q_people' : (Nat → Int32)} {q_people : (Nat → Int)} {q_safeRooms' : Int32} {q_safeRooms : Int} {q_passages' : Int32} {q_passages : Int} {q_from' : (Nat → Int32)} {q_from : (Nat → Int)} {q_to' : (Nat → Int32)} {q_to : (Nat → Int)} {q_width' : (Nat → Int32)} {q_width : (Nat → Int)} {q_length' : (Nat → Int32)} {q_length : (Nat → Int)} {q_shut' : (Nat → Int32)} {q_shut : (Nat → Int)} {f_lanes' : Int32} {f_lanes : Int} {f_from' : (Nat → Int32)} {f_from : (Nat → Int)} {f_to' : (Nat → Int32)} {f_to : (Nat → Int)} {f_width' : (Nat → Int32)} {f_width : (Nat → Int)} {f_length' : (Nat → Int32)} {f_length : (Nat → Int)} {f_shut' : (Nat → Int32)} {f_shut : (Nat → Int)} {f_safeRooms' : Int32} {f_safeRooms : Int} {f_people' : Int32} {f_people : Int} {f_led' : Int32} {f_led : Int} {f_notLed' : (Nat → Int32)} {f_notLed : (Nat → Int)} {f_entering' : (Nat → Int32)} {f_entering : (Nat → Int)} {f_latest' : (Nat → Int32)} {f_latest : (Nat → Int)} {f_step' : (Nat → Int32)} {f_step : (Nat → Int)} {f_wayEntry' : (Nat → Int32)} {f_wayEntry : (Nat → Int)} {f_wayAhead' : (Nat → Int32)} {f_wayAhead : (Nat → Int)} {f_waySteps' : Int32} {f_waySteps : Int} {f_wayWidth' : Int32} {f_wayWidth : Int} (e_q_people : q_people' = az q_people) (e_q_safeRooms : q_safeRooms' = iz q_safeRooms) (e_q_passages : q_passages' = iz q_passages) (e_q_from : q_from' = az q_from) (e_q_to : q_to' = az q_to) (e_q_width : q_width' = az q_width) (e_q_length : q_length' = az q_length) (e_q_shut : q_shut' = az q_shut) (e_f_lanes : f_lanes' = iz f_lanes) (e_f_from : f_from' = az f_from) (e_f_to : f_to' = az f_to) (e_f_width : f_width' = az f_width) (e_f_length : f_length' = az f_length) (e_f_shut : f_shut' = az f_shut) (e_f_safeRooms : f_safeRooms' = iz f_safeRooms) (e_f_people : f_people' = iz f_people) (e_f_led : f_led' = iz f_led) (e_f_notLed : f_notLed' = az f_notLed) (e_f_entering : f_entering' = az f_entering) (e_f_latest : f_latest' = az f_latest) (e_f_step : f_step' = az f_step) (e_f_wayEntry : f_wayEntry' = az f_wayEntry) (e_f_wayAhead : f_wayAhead' = az f_wayAhead) (e_f_waySteps : f_waySteps' = iz f_waySteps) (e_f_wayWidth : f_wayWidth' = iz f_wayWidth) {post0 : Int32 → (Int32 × (Nat → Int32) × (Nat → Int32) × (Nat → Int32) × (Nat → Int32) × (Nat → Int32) × Int32 × Int32 × Int32 × (Nat → Int32) × (Nat → Int32) × (Nat → Int32) × (Nat → Int32) × (Nat → Int32) × (Nat → Int32) × Int32 × Int32) → Prop} {post : Int → (Int × (Nat → Int) × (Nat → Int) × (Nat → Int) × (Nat → Int) × (Nat → Int) × Int × Int × Int × (Nat → Int) × (Nat → Int) × (Nat → Int) × (Nat → Int) × (Nat → Int) × (Nat → Int) × Int × Int) → Prop} (hv : iv_X4_leadAll q_people q_safeRooms q_passages q_from q_to q_width q_length q_shut f_lanes f_from f_to f_width f_length f_shut f_safeRooms f_people f_led f_notLed f_entering f_latest f_step f_wayEntry f_wayAhead f_waySteps f_wayWidth post) (hp : ∀ (r : Int) (u : Int × (Nat → Int) × (Nat → Int) × (Nat → Int) × (Nat → Int) × (Nat → Int) × Int × Int × Int × (Nat → Int) × (Nat → Int) × (Nat → Int) × (Nat → Int) × (Nat → Int) × (Nat → Int) × Int × Int) (x : Int32) (y : Int32 × (Nat → Int32) × (Nat → Int32) × (Nat → Int32) × (Nat → Int32) × (Nat → Int32) × Int32 × Int32 × Int32 × (Nat → Int32) × (Nat → Int32) × (Nat → Int32) × (Nat → Int32) × (Nat → Int32) × (Nat → Int32) × Int32 × Int32), post r u → x = iz r → y = (iz u.1, az u.2.1, az u.2.2.1, az u.2.2.2.1, az u.2.2.2.2.1, az u.2.2.2.2.2.1, iz u.2.2.2.2.2.2.1, iz u.2.2.2.2.2.2.2.1, iz u.2.2.2.2.2.2.2.2.1, az u.2.2.2.2.2.2.2.2.2.1, az u.2.2.2.2.2.2.2.2.2.2.1, az u.2.2.2.2.2.2.2.2.2.2.2.1, az u.2.2.2.2.2.2.2.2.2.2.2.2.1, az u.2.2.2.2.2.2.2.2.2.2.2.2.2.1, az u.2.2.2.2.2.2.2.2.2.2.2.2.2.2.1, iz u.2.2.2.2.2.2.2.2.2.2.2.2.2.2.2.1, iz u.2.2.2.2.2.2.2.2.2.2.2.2.2.2.2.2) → post0 x y) : vc_X4_leadAll q_people' q_safeRooms' q_passages' q_from' q_to' q_width' q_length' q_shut' f_lanes' f_from' f_to' f_width' f_length' f_shut' f_safeRooms' f_people' f_led' f_notLed' f_entering' f_latest' f_step' f_wayEntry' f_wayAhead' f_waySteps' f_wayWidth' post0 := by
  subst e_q_people
  subst e_q_safeRooms
  subst e_q_passages
  subst e_q_from
  subst e_q_to
  subst e_q_width
  subst e_q_length
  subst e_q_shut
  subst e_f_lanes
  subst e_f_from
  subst e_f_to
  subst e_f_width
  subst e_f_length
  subst e_f_shut
  subst e_f_safeRooms
  subst e_f_people
  subst e_f_led
  subst e_f_notLed
  subst e_f_entering
  subst e_f_latest
  subst e_f_step
  subst e_f_wayEntry
  subst e_f_wayAhead
  subst e_f_waySteps
  subst e_f_wayWidth
  rw [iv_X4_leadAll] at hv
  rw [vc_X4_leadAll]
  refine lift_X0_begin (by first | with_reducible rfl | simp only [zl, iz_add, iz_sub, iz_mul, iz_neg]) (by first | with_reducible rfl | simp only [zl, iz_add, iz_sub, iz_mul, iz_neg]) (by first | with_reducible rfl | simp only [zl, iz_add, iz_sub, iz_mul, iz_neg]) (by first | with_reducible rfl | simp only [zl, iz_add, iz_sub, iz_mul, iz_neg]) (by first | with_reducible rfl | simp only [zl, iz_add, iz_sub, iz_mul, iz_neg]) (by first | with_reducible rfl | simp only [zl, iz_add, iz_sub, iz_mul, iz_neg]) (by first | with_reducible rfl | simp only [zl, iz_add, iz_sub, iz_mul, iz_neg]) (by first | with_reducible rfl | simp only [zl, iz_add, iz_sub, iz_mul, iz_neg]) (by first | with_reducible rfl | simp only [zl, iz_add, iz_sub, iz_mul, iz_neg]) (by first | with_reducible rfl | simp only [zl, iz_add, iz_sub, iz_mul, iz_neg]) (by first | with_reducible rfl | simp only [zl, iz_add, iz_sub, iz_mul, iz_neg]) (by first | with_reducible rfl | simp only [zl, iz_add, iz_sub, iz_mul, iz_neg]) (by first | with_reducible rfl | simp only [zl, iz_add, iz_sub, iz_mul, iz_neg]) (by first | with_reducible rfl | simp only [zl, iz_add, iz_sub, iz_mul, iz_neg]) (by first | with_reducible rfl | simp only [zl, iz_add, iz_sub, iz_mul, iz_neg]) (by first | with_reducible rfl | simp only [zl, iz_add, iz_sub, iz_mul, iz_neg]) (by first | with_reducible rfl | simp only [zl, iz_add, iz_sub, iz_mul, iz_neg]) (by first | with_reducible rfl | simp only [zl, iz_add, iz_sub, iz_mul, iz_neg]) (by first | with_reducible rfl | simp only [zl, iz_add, iz_sub, iz_mul, iz_neg]) hv (fun u_1 y_3 hv eu_5 => ?_)
  subst eu_5
  try dsimp only
  obtain ⟨n_27, hv⟩ := hv
  refine ⟨n_27, lift_X4_leadAll_L13 (by first | with_reducible rfl | simp only [zl, iz_add, iz_sub, iz_mul, iz_neg]) (by first | with_reducible rfl | simp only [zl, iz_add, iz_sub, iz_mul, iz_neg]) (by first | with_reducible rfl | simp only [zl, iz_add, iz_sub, iz_mul, iz_neg]) (by first | with_reducible rfl | simp only [zl, iz_add, iz_sub, iz_mul, iz_neg]) (by first | with_reducible rfl | simp only [zl, iz_add, iz_sub, iz_mul, iz_neg]) (by first | with_reducible rfl | simp only [zl, iz_add, iz_sub, iz_mul, iz_neg]) (by first | with_reducible rfl | simp only [zl, iz_add, iz_sub, iz_mul, iz_neg]) (by first | with_reducible rfl | simp only [zl, iz_add, iz_sub, iz_mul, iz_neg]) (fun y_28 y_29 y_30 y_31 y_32 y_33 y_34 y_35 y_36 f_led_18 f_notLed_19 f_entering_20 f_latest_21 f_step_22 f_wayEntry_23 f_wayAhead_24 f_waySteps_25 f_wayWidth_26 hv ey_37 ey_38 ey_39 ey_40 ey_41 ey_42 ey_43 ey_44 ey_45 => ?_) hp n_27 _ _ _ _ _ _ _ _ _ _ 0 u_1.2.2.2.2.2.2.2.2.1 u_1.2.2.2.2.2.2.2.2.2.1 u_1.2.2.2.2.2.2.2.2.2.2 f_latest f_step f_wayEntry f_wayAhead f_waySteps f_wayWidth (by first | with_reducible rfl | simp only [zl, iz_add, iz_sub, iz_mul, iz_neg]) (by first | with_reducible rfl | simp only [zl, iz_add, iz_sub, iz_mul, iz_neg]) (by first | with_reducible rfl | simp only [zl, iz_add, iz_sub, iz_mul, iz_neg]) (by first | with_reducible rfl | simp only [zl, iz_add, iz_sub, iz_mul, iz_neg]) (by first | with_reducible rfl | simp only [zl, iz_add, iz_sub, iz_mul, iz_neg]) (by first | with_reducible rfl | simp only [zl, iz_add, iz_sub, iz_mul, iz_neg]) (by first | with_reducible rfl | simp only [zl, iz_add, iz_sub, iz_mul, iz_neg]) (by first | with_reducible rfl | simp only [zl, iz_add, iz_sub, iz_mul, iz_neg]) (by first | with_reducible rfl | simp only [zl, iz_add, iz_sub, iz_mul, iz_neg]) (by first | with_reducible rfl | simp only [zl, iz_add, iz_sub, iz_mul, iz_neg]) hv⟩
  subst ey_37
  subst ey_38
  subst ey_39
  subst ey_40
  subst ey_41
  subst ey_42
  subst ey_43
  subst ey_44
  subst ey_45
  exact hp _ _ _ _ hv (by first | with_reducible rfl | simp only [zl, iz_add, iz_sub, iz_mul, iz_neg]) (by first | with_reducible rfl | simp only [zl, iz_add, iz_sub, iz_mul, iz_neg])

def iv_X4_last (q_people : (Nat → Int)) (q_safeRooms : Int) (q_passages : Int) (q_from : (Nat → Int)) (q_to : (Nat → Int)) (q_width : (Nat → Int)) (q_length : (Nat → Int)) (q_shut : (Nat → Int)) (f_lanes : Int) (f_from : (Nat → Int)) (f_to : (Nat → Int)) (f_width : (Nat → Int)) (f_length : (Nat → Int)) (f_shut : (Nat → Int)) (f_safeRooms : Int) (f_people : Int) (f_led : Int) (f_notLed : (Nat → Int)) (f_entering : (Nat → Int)) (f_latest : (Nat → Int)) (f_step : (Nat → Int)) (f_wayEntry : (Nat → Int)) (f_wayAhead : (Nat → Int)) (f_waySteps : Int) (f_wayWidth : Int) (post : Int → (Int × (Nat → Int) × (Nat → Int) × (Nat → Int) × (Nat → Int) × (Nat → Int) × Int × Int × Int × (Nat → Int) × (Nat → Int) × (Nat → Int) × (Nat → Int) × (Nat → Int) × (Nat → Int) × Int × Int) → Prop) : Prop :=
  (iv_X4_leadAll q_people q_safeRooms q_passages q_from q_to q_width q_length q_shut f_lanes f_from f_to f_width f_length f_shut f_safeRooms f_people f_led f_notLed f_entering f_latest f_step f_wayEntry f_wayAhead f_waySteps f_wayWidth (fun (r_2 : Int) (u_1 : Int × (Nat → Int) × (Nat → Int) × (Nat → Int) × (Nat → Int) × (Nat → Int) × Int × Int × Int × (Nat → Int) × (Nat → Int) × (Nat → Int) × (Nat → Int) × (Nat → Int) × (Nat → Int) × Int × Int) => post r_2 (u_1.1, u_1.2.1, u_1.2.2.1, u_1.2.2.2.1, u_1.2.2.2.2.1, u_1.2.2.2.2.2.1, u_1.2.2.2.2.2.2.1, u_1.2.2.2.2.2.2.2.1, u_1.2.2.2.2.2.2.2.2.1, u_1.2.2.2.2.2.2.2.2.2.1, u_1.2.2.2.2.2.2.2.2.2.2.1, u_1.2.2.2.2.2.2.2.2.2.2.2.1, u_1.2.2.2.2.2.2.2.2.2.2.2.2.1, u_1.2.2.2.2.2.2.2.2.2.2.2.2.2.1, u_1.2.2.2.2.2.2.2.2.2.2.2.2.2.2.1, u_1.2.2.2.2.2.2.2.2.2.2.2.2.2.2.2.1, u_1.2.2.2.2.2.2.2.2.2.2.2.2.2.2.2.2)))

set_option maxHeartbeats 4000000 in
theorem lift_X4_last {q_people' : (Nat → Int32)} {q_people : (Nat → Int)} {q_safeRooms' : Int32} {q_safeRooms : Int} {q_passages' : Int32} {q_passages : Int} {q_from' : (Nat → Int32)} {q_from : (Nat → Int)} {q_to' : (Nat → Int32)} {q_to : (Nat → Int)} {q_width' : (Nat → Int32)} {q_width : (Nat → Int)} {q_length' : (Nat → Int32)} {q_length : (Nat → Int)} {q_shut' : (Nat → Int32)} {q_shut : (Nat → Int)} {f_lanes' : Int32} {f_lanes : Int} {f_from' : (Nat → Int32)} {f_from : (Nat → Int)} {f_to' : (Nat → Int32)} {f_to : (Nat → Int)} {f_width' : (Nat → Int32)} {f_width : (Nat → Int)} {f_length' : (Nat → Int32)} {f_length : (Nat → Int)} {f_shut' : (Nat → Int32)} {f_shut : (Nat → Int)} {f_safeRooms' : Int32} {f_safeRooms : Int} {f_people' : Int32} {f_people : Int} {f_led' : Int32} {f_led : Int} {f_notLed' : (Nat → Int32)} {f_notLed : (Nat → Int)} {f_entering' : (Nat → Int32)} {f_entering : (Nat → Int)} {f_latest' : (Nat → Int32)} {f_latest : (Nat → Int)} {f_step' : (Nat → Int32)} {f_step : (Nat → Int)} {f_wayEntry' : (Nat → Int32)} {f_wayEntry : (Nat → Int)} {f_wayAhead' : (Nat → Int32)} {f_wayAhead : (Nat → Int)} {f_waySteps' : Int32} {f_waySteps : Int} {f_wayWidth' : Int32} {f_wayWidth : Int} (e_q_people : q_people' = az q_people) (e_q_safeRooms : q_safeRooms' = iz q_safeRooms) (e_q_passages : q_passages' = iz q_passages) (e_q_from : q_from' = az q_from) (e_q_to : q_to' = az q_to) (e_q_width : q_width' = az q_width) (e_q_length : q_length' = az q_length) (e_q_shut : q_shut' = az q_shut) (e_f_lanes : f_lanes' = iz f_lanes) (e_f_from : f_from' = az f_from) (e_f_to : f_to' = az f_to) (e_f_width : f_width' = az f_width) (e_f_length : f_length' = az f_length) (e_f_shut : f_shut' = az f_shut) (e_f_safeRooms : f_safeRooms' = iz f_safeRooms) (e_f_people : f_people' = iz f_people) (e_f_led : f_led' = iz f_led) (e_f_notLed : f_notLed' = az f_notLed) (e_f_entering : f_entering' = az f_entering) (e_f_latest : f_latest' = az f_latest) (e_f_step : f_step' = az f_step) (e_f_wayEntry : f_wayEntry' = az f_wayEntry) (e_f_wayAhead : f_wayAhead' = az f_wayAhead) (e_f_waySteps : f_waySteps' = iz f_waySteps) (e_f_wayWidth : f_wayWidth' = iz f_wayWidth) {post0 : Int32 → (Int32 × (Nat → Int32) × (Nat → Int32) × (Nat → Int32) × (Nat → Int32) × (Nat → Int32) × Int32 × Int32 × Int32 × (Nat → Int32) × (Nat → Int32) × (Nat → Int32) × (Nat → Int32) × (Nat → Int32) × (Nat → Int32) × Int32 × Int32) → Prop} {post : Int → (Int × (Nat → Int) × (Nat → Int) × (Nat → Int) × (Nat → Int) × (Nat → Int) × Int × Int × Int × (Nat → Int) × (Nat → Int) × (Nat → Int) × (Nat → Int) × (Nat → Int) × (Nat → Int) × Int × Int) → Prop} (hv : iv_X4_last q_people q_safeRooms q_passages q_from q_to q_width q_length q_shut f_lanes f_from f_to f_width f_length f_shut f_safeRooms f_people f_led f_notLed f_entering f_latest f_step f_wayEntry f_wayAhead f_waySteps f_wayWidth post) (hp : ∀ (r : Int) (u : Int × (Nat → Int) × (Nat → Int) × (Nat → Int) × (Nat → Int) × (Nat → Int) × Int × Int × Int × (Nat → Int) × (Nat → Int) × (Nat → Int) × (Nat → Int) × (Nat → Int) × (Nat → Int) × Int × Int) (x : Int32) (y : Int32 × (Nat → Int32) × (Nat → Int32) × (Nat → Int32) × (Nat → Int32) × (Nat → Int32) × Int32 × Int32 × Int32 × (Nat → Int32) × (Nat → Int32) × (Nat → Int32) × (Nat → Int32) × (Nat → Int32) × (Nat → Int32) × Int32 × Int32), post r u → x = iz r → y = (iz u.1, az u.2.1, az u.2.2.1, az u.2.2.2.1, az u.2.2.2.2.1, az u.2.2.2.2.2.1, iz u.2.2.2.2.2.2.1, iz u.2.2.2.2.2.2.2.1, iz u.2.2.2.2.2.2.2.2.1, az u.2.2.2.2.2.2.2.2.2.1, az u.2.2.2.2.2.2.2.2.2.2.1, az u.2.2.2.2.2.2.2.2.2.2.2.1, az u.2.2.2.2.2.2.2.2.2.2.2.2.1, az u.2.2.2.2.2.2.2.2.2.2.2.2.2.1, az u.2.2.2.2.2.2.2.2.2.2.2.2.2.2.1, iz u.2.2.2.2.2.2.2.2.2.2.2.2.2.2.2.1, iz u.2.2.2.2.2.2.2.2.2.2.2.2.2.2.2.2) → post0 x y) : vc_X4_last q_people' q_safeRooms' q_passages' q_from' q_to' q_width' q_length' q_shut' f_lanes' f_from' f_to' f_width' f_length' f_shut' f_safeRooms' f_people' f_led' f_notLed' f_entering' f_latest' f_step' f_wayEntry' f_wayAhead' f_waySteps' f_wayWidth' post0 := by
  subst e_q_people
  subst e_q_safeRooms
  subst e_q_passages
  subst e_q_from
  subst e_q_to
  subst e_q_width
  subst e_q_length
  subst e_q_shut
  subst e_f_lanes
  subst e_f_from
  subst e_f_to
  subst e_f_width
  subst e_f_length
  subst e_f_shut
  subst e_f_safeRooms
  subst e_f_people
  subst e_f_led
  subst e_f_notLed
  subst e_f_entering
  subst e_f_latest
  subst e_f_step
  subst e_f_wayEntry
  subst e_f_wayAhead
  subst e_f_waySteps
  subst e_f_wayWidth
  rw [iv_X4_last] at hv
  rw [vc_X4_last]
  refine lift_X4_leadAll (by first | with_reducible rfl | simp only [zl, iz_add, iz_sub, iz_mul, iz_neg]) (by first | with_reducible rfl | simp only [zl, iz_add, iz_sub, iz_mul, iz_neg]) (by first | with_reducible rfl | simp only [zl, iz_add, iz_sub, iz_mul, iz_neg]) (by first | with_reducible rfl | simp only [zl, iz_add, iz_sub, iz_mul, iz_neg]) (by first | with_reducible rfl | simp only [zl, iz_add, iz_sub, iz_mul, iz_neg]) (by first | with_reducible rfl | simp only [zl, iz_add, iz_sub, iz_mul, iz_neg]) (by first | with_reducible rfl | simp only [zl, iz_add, iz_sub, iz_mul, iz_neg]) (by first | with_reducible rfl | simp only [zl, iz_add, iz_sub, iz_mul, iz_neg]) (by first | with_reducible rfl | simp only [zl, iz_add, iz_sub, iz_mul, iz_neg]) (by first | with_reducible rfl | simp only [zl, iz_add, iz_sub, iz_mul, iz_neg]) (by first | with_reducible rfl | simp only [zl, iz_add, iz_sub, iz_mul, iz_neg]) (by first | with_reducible rfl | simp only [zl, iz_add, iz_sub, iz_mul, iz_neg]) (by first | with_reducible rfl | simp only [zl, iz_add, iz_sub, iz_mul, iz_neg]) (by first | with_reducible rfl | simp only [zl, iz_add, iz_sub, iz_mul, iz_neg]) (by first | with_reducible rfl | simp only [zl, iz_add, iz_sub, iz_mul, iz_neg]) (by first | with_reducible rfl | simp only [zl, iz_add, iz_sub, iz_mul, iz_neg]) (by first | with_reducible rfl | simp only [zl, iz_add, iz_sub, iz_mul, iz_neg]) (by first | with_reducible rfl | simp only [zl, iz_add, iz_sub, iz_mul, iz_neg]) (by first | with_reducible rfl | simp only [zl, iz_add, iz_sub, iz_mul, iz_neg]) (by first | with_reducible rfl | simp only [zl, iz_add, iz_sub, iz_mul, iz_neg]) (by first | with_reducible rfl | simp only [zl, iz_add, iz_sub, iz_mul, iz_neg]) (by first | with_reducible rfl | simp only [zl, iz_add, iz_sub, iz_mul, iz_neg]) (by first | with_reducible rfl | simp only [zl, iz_add, iz_sub, iz_mul, iz_neg]) (by first | with_reducible rfl | simp only [zl, iz_add, iz_sub, iz_mul, iz_neg]) (by first | with_reducible rfl | simp only [zl, iz_add, iz_sub, iz_mul, iz_neg]) hv (fun r_2 u_1 y_3 y_4 hv er_5 eu_6 => ?_)
  subst er_5; subst eu_6
  try dsimp only
  exact hp _ _ _ _ hv (by first | with_reducible rfl | simp only [zl, iz_add, iz_sub, iz_mul, iz_neg]) (by first | with_reducible rfl | simp only [zl, iz_add, iz_sub, iz_mul, iz_neg])

def iv_X4_helps_L49 (K : Int → Int → (Nat → Int) → (Nat → Int) → (Nat → Int) → (Nat → Int) → (Nat → Int) → Int → Int → Int → (Nat → Int) → (Nat → Int) → (Nat → Int) → (Nat → Int) → (Nat → Int) → (Nat → Int) → Int → Int → Prop) (b2 : Int) (q_passages : Int) (q_width : (Nat → Int)) (f_lanes : Int) (f_from : (Nat → Int)) (f_to : (Nat → Int)) (f_width : (Nat → Int)) (f_length : (Nat → Int)) (f_shut : (Nat → Int)) (f_safeRooms : Int) (f_people : Int) (f_led : Int) (f_notLed : (Nat → Int)) (f_entering : (Nat → Int)) : Nat → Int → Int → Int → (Nat → Int) → (Nat → Int) → (Nat → Int) → (Nat → Int) → (Nat → Int) → Int → Int → Int → (Nat → Int) → (Nat → Int) → (Nat → Int) → (Nat → Int) → (Nat → Int) → (Nat → Int) → Int → Int → Prop
  | 0, _, _, _, _, _, _, _, _, _, _, _, _, _, _, _, _, _, _, _ => False
  | n + 1, v3, v4, g_lanes, g_from, g_to, g_width, g_length, g_shut, g_safeRooms, g_people, g_led, g_notLed, g_entering, g_latest, g_step, g_wayEntry, g_wayAhead, g_waySteps, g_wayWidth =>
    ((sm q_passages ∧ sm v4) ∧ ((q_passages ≤ v4 → K v3 g_lanes g_from g_to g_width g_length g_shut g_safeRooms g_people g_led g_notLed g_entering g_latest g_step g_wayEntry g_wayAhead g_waySteps g_wayWidth) ∧ (¬ q_passages ≤ v4 → (iv_X0_copy g_lanes g_from g_to g_width g_length g_shut g_safeRooms g_people g_led g_notLed g_entering f_lanes f_from f_to f_width f_length f_shut f_safeRooms f_people f_led f_notLed f_entering (fun (u_13 : Int × (Nat → Int) × (Nat → Int) × (Nat → Int) × (Nat → Int) × (Nat → Int) × Int × Int × Int × (Nat → Int) × (Nat → Int)) => ((0 ≤ v4 ∧ v4 < 10) ∧ (iv_X0_setWidth v4 ((q_width v4.toNat) + 1) u_13.2.2.2.1 (fun (u_20 : (Nat → Int)) => (iv_X0_leadsAllBy b2 u_13.1 u_13.2.1 u_13.2.2.1 u_20 u_13.2.2.2.2.1 u_13.2.2.2.2.2.1 u_13.2.2.2.2.2.2.1 u_13.2.2.2.2.2.2.2.1 u_13.2.2.2.2.2.2.2.2.1 u_13.2.2.2.2.2.2.2.2.2.1 u_13.2.2.2.2.2.2.2.2.2.2 g_latest g_step g_wayEntry g_wayAhead g_waySteps g_wayWidth (fun (r_26 : Int) (u_25 : Int × (Nat → Int) × (Nat → Int) × (Nat → Int) × (Nat → Int) × (Nat → Int) × (Nat → Int) × Int × Int) => ((sm r_26 ∧ sm 0) ∧ ((r_26 = 0 → (∀ x4_33 : Int, x4_33 = v4 + 1 → iv_X4_helps_L49 K b2 q_passages q_width f_lanes f_from f_to f_width f_length f_shut f_safeRooms f_people f_led f_notLed f_entering n v3 x4_33 u_13.1 u_13.2.1 u_13.2.2.1 u_20 u_13.2.2.2.2.1 u_13.2.2.2.2.2.1 u_13.2.2.2.2.2.2.1 u_13.2.2.2.2.2.2.2.1 u_25.1 u_25.2.1 u_25.2.2.1 u_25.2.2.2.1 u_25.2.2.2.2.1 u_25.2.2.2.2.2.1 u_25.2.2.2.2.2.2.1 u_25.2.2.2.2.2.2.2.1 u_25.2.2.2.2.2.2.2.2)) ∧ (¬ r_26 = 0 → ((0 ≤ v4 ∧ v4 < 30) ∧ ((zn v3 ∧ zn (2 ^ (v4).toNat)) ∧ (∀ x3_39 : Int, x3_39 = (zor v3 (2 ^ (v4).toNat)) → (∀ x4_41 : Int, x4_41 = v4 + 1 → iv_X4_helps_L49 K b2 q_passages q_width f_lanes f_from f_to f_width f_length f_shut f_safeRooms f_people f_led f_notLed f_entering n x3_39 x4_41 u_13.1 u_13.2.1 u_13.2.2.1 u_20 u_13.2.2.2.2.1 u_13.2.2.2.2.2.1 u_13.2.2.2.2.2.2.1 u_13.2.2.2.2.2.2.2.1 u_25.1 u_25.2.1 u_25.2.2.1 u_25.2.2.2.1 u_25.2.2.2.2.1 u_25.2.2.2.2.2.1 u_25.2.2.2.2.2.2.1 u_25.2.2.2.2.2.2.2.1 u_25.2.2.2.2.2.2.2.2)))))))))))))))))

set_option maxHeartbeats 4000000 in
theorem lift_X4_helps_L49 {K0 : Int32 → Int32 → (Nat → Int32) → (Nat → Int32) → (Nat → Int32) → (Nat → Int32) → (Nat → Int32) → Int32 → Int32 → Int32 → (Nat → Int32) → (Nat → Int32) → (Nat → Int32) → (Nat → Int32) → (Nat → Int32) → (Nat → Int32) → Int32 → Int32 → Prop} {K : Int → Int → (Nat → Int) → (Nat → Int) → (Nat → Int) → (Nat → Int) → (Nat → Int) → Int → Int → Int → (Nat → Int) → (Nat → Int) → (Nat → Int) → (Nat → Int) → (Nat → Int) → (Nat → Int) → Int → Int → Prop} {b2' : Int32} {b2 : Int} {q_passages' : Int32} {q_passages : Int} {q_width' : (Nat → Int32)} {q_width : (Nat → Int)} {f_lanes' : Int32} {f_lanes : Int} {f_from' : (Nat → Int32)} {f_from : (Nat → Int)} {f_to' : (Nat → Int32)} {f_to : (Nat → Int)} {f_width' : (Nat → Int32)} {f_width : (Nat → Int)} {f_length' : (Nat → Int32)} {f_length : (Nat → Int)} {f_shut' : (Nat → Int32)} {f_shut : (Nat → Int)} {f_safeRooms' : Int32} {f_safeRooms : Int} {f_people' : Int32} {f_people : Int} {f_led' : Int32} {f_led : Int} {f_notLed' : (Nat → Int32)} {f_notLed : (Nat → Int)} {f_entering' : (Nat → Int32)} {f_entering : (Nat → Int)} (e_b2 : b2' = iz b2) (e_q_passages : q_passages' = iz q_passages) (e_q_width : q_width' = az q_width) (e_f_lanes : f_lanes' = iz f_lanes) (e_f_from : f_from' = az f_from) (e_f_to : f_to' = az f_to) (e_f_width : f_width' = az f_width) (e_f_length : f_length' = az f_length) (e_f_shut : f_shut' = az f_shut) (e_f_safeRooms : f_safeRooms' = iz f_safeRooms) (e_f_people : f_people' = iz f_people) (e_f_led : f_led' = iz f_led) (e_f_notLed : f_notLed' = az f_notLed) (e_f_entering : f_entering' = az f_entering)  (hKx : ∀ (k3' : Int32) (k_g_lanes' : Int32) (k_g_from' : (Nat → Int32)) (k_g_to' : (Nat → Int32)) (k_g_width' : (Nat → Int32)) (k_g_length' : (Nat → Int32)) (k_g_shut' : (Nat → Int32)) (k_g_safeRooms' : Int32) (k_g_people' : Int32) (k_g_led' : Int32) (k_g_notLed' : (Nat → Int32)) (k_g_entering' : (Nat → Int32)) (k_g_latest' : (Nat → Int32)) (k_g_step' : (Nat → Int32)) (k_g_wayEntry' : (Nat → Int32)) (k_g_wayAhead' : (Nat → Int32)) (k_g_waySteps' : Int32) (k_g_wayWidth' : Int32) (k3 : Int) (k_g_lanes : Int) (k_g_from : (Nat → Int)) (k_g_to : (Nat → Int)) (k_g_width : (Nat → Int)) (k_g_length : (Nat → Int)) (k_g_shut : (Nat → Int)) (k_g_safeRooms : Int) (k_g_people : Int) (k_g_led : Int) (k_g_notLed : (Nat → Int)) (k_g_entering : (Nat → Int)) (k_g_latest : (Nat → Int)) (k_g_step : (Nat → Int)) (k_g_wayEntry : (Nat → Int)) (k_g_wayAhead : (Nat → Int)) (k_g_waySteps : Int) (k_g_wayWidth : Int), K k3 k_g_lanes k_g_from k_g_to k_g_width k_g_length k_g_shut k_g_safeRooms k_g_people k_g_led k_g_notLed k_g_entering k_g_latest k_g_step k_g_wayEntry k_g_wayAhead k_g_waySteps k_g_wayWidth → k3' = iz k3 → k_g_lanes' = iz k_g_lanes → k_g_from' = az k_g_from → k_g_to' = az k_g_to → k_g_width' = az k_g_width → k_g_length' = az k_g_length → k_g_shut' = az k_g_shut → k_g_safeRooms' = iz k_g_safeRooms → k_g_people' = iz k_g_people → k_g_led' = iz k_g_led → k_g_notLed' = az k_g_notLed → k_g_entering' = az k_g_entering → k_g_latest' = az k_g_latest → k_g_step' = az k_g_step → k_g_wayEntry' = az k_g_wayEntry → k_g_wayAhead' = az k_g_wayAhead → k_g_waySteps' = iz k_g_waySteps → k_g_wayWidth' = iz k_g_wayWidth →  K0 k3' k_g_lanes' k_g_from' k_g_to' k_g_width' k_g_length' k_g_shut' k_g_safeRooms' k_g_people' k_g_led' k_g_notLed' k_g_entering' k_g_latest' k_g_step' k_g_wayEntry' k_g_wayAhead' k_g_waySteps' k_g_wayWidth') :
    ∀ (n : Nat) (v3' : Int32) (v4' : Int32) (g_lanes' : Int32) (g_from' : (Nat → Int32)) (g_to' : (Nat → Int32)) (g_width' : (Nat → Int32)) (g_length' : (Nat → Int32)) (g_shut' : (Nat → Int32)) (g_safeRooms' : Int32) (g_people' : Int32) (g_led' : Int32) (g_notLed' : (Nat → Int32)) (g_entering' : (Nat → Int32)) (g_latest' : (Nat → Int32)) (g_step' : (Nat → Int32)) (g_wayEntry' : (Nat → Int32)) (g_wayAhead' : (Nat → Int32)) (g_waySteps' : Int32) (g_wayWidth' : Int32) (v3 : Int) (v4 : Int) (g_lanes : Int) (g_from : (Nat → Int)) (g_to : (Nat → Int)) (g_width : (Nat → Int)) (g_length : (Nat → Int)) (g_shut : (Nat → Int)) (g_safeRooms : Int) (g_people : Int) (g_led : Int) (g_notLed : (Nat → Int)) (g_entering : (Nat → Int)) (g_latest : (Nat → Int)) (g_step : (Nat → Int)) (g_wayEntry : (Nat → Int)) (g_wayAhead : (Nat → Int)) (g_waySteps : Int) (g_wayWidth : Int) (e_v3 : v3' = iz v3) (e_v4 : v4' = iz v4) (e_g_lanes : g_lanes' = iz g_lanes) (e_g_from : g_from' = az g_from) (e_g_to : g_to' = az g_to) (e_g_width : g_width' = az g_width) (e_g_length : g_length' = az g_length) (e_g_shut : g_shut' = az g_shut) (e_g_safeRooms : g_safeRooms' = iz g_safeRooms) (e_g_people : g_people' = iz g_people) (e_g_led : g_led' = iz g_led) (e_g_notLed : g_notLed' = az g_notLed) (e_g_entering : g_entering' = az g_entering) (e_g_latest : g_latest' = az g_latest) (e_g_step : g_step' = az g_step) (e_g_wayEntry : g_wayEntry' = az g_wayEntry) (e_g_wayAhead : g_wayAhead' = az g_wayAhead) (e_g_waySteps : g_waySteps' = iz g_waySteps) (e_g_wayWidth : g_wayWidth' = iz g_wayWidth), iv_X4_helps_L49 K b2 q_passages q_width f_lanes f_from f_to f_width f_length f_shut f_safeRooms f_people f_led f_notLed f_entering n v3 v4 g_lanes g_from g_to g_width g_length g_shut g_safeRooms g_people g_led g_notLed g_entering g_latest g_step g_wayEntry g_wayAhead g_waySteps g_wayWidth → vc_X4_helps_L49 K0 b2' q_passages' q_width' f_lanes' f_from' f_to' f_width' f_length' f_shut' f_safeRooms' f_people' f_led' f_notLed' f_entering' n v3' v4' g_lanes' g_from' g_to' g_width' g_length' g_shut' g_safeRooms' g_people' g_led' g_notLed' g_entering' g_latest' g_step' g_wayEntry' g_wayAhead' g_waySteps' g_wayWidth' := by
  subst e_b2
  subst e_q_passages
  subst e_q_width
  subst e_f_lanes
  subst e_f_from
  subst e_f_to
  subst e_f_width
  subst e_f_length
  subst e_f_shut
  subst e_f_safeRooms
  subst e_f_people
  subst e_f_led
  subst e_f_notLed
  subst e_f_entering
  intro n
  induction n with
  | zero =>
    intro v3' v4' g_lanes' g_from' g_to' g_width' g_length' g_shut' g_safeRooms' g_people' g_led' g_notLed' g_entering' g_latest' g_step' g_wayEntry' g_wayAhead' g_waySteps' g_wayWidth' v3 v4 g_lanes g_from g_to g_width g_length g_shut g_safeRooms g_people g_led g_notLed g_entering g_latest g_step g_wayEntry g_wayAhead g_waySteps g_wayWidth e_v3 e_v4 e_g_lanes e_g_from e_g_to e_g_width e_g_length e_g_shut e_g_safeRooms e_g_people e_g_led e_g_notLed e_g_entering e_g_latest e_g_step e_g_wayEntry e_g_wayAhead e_g_waySteps e_g_wayWidth hv
    exact False.elim hv
  | succ n ih =>
    intro v3' v4' g_lanes' g_from' g_to' g_width' g_length' g_shut' g_safeRooms' g_people' g_led' g_notLed' g_entering' g_latest' g_step' g_wayEntry' g_wayAhead' g_waySteps' g_wayWidth' v3 v4 g_lanes g_from g_to g_width g_length g_shut g_safeRooms g_people g_led g_notLed g_entering g_latest g_step g_wayEntry g_wayAhead g_waySteps g_wayWidth e_v3 e_v4 e_g_lanes e_g_from e_g_to e_g_width e_g_length e_g_shut e_g_safeRooms e_g_people e_g_led e_g_notLed e_g_entering e_g_latest e_g_step e_g_wayEntry e_g_wayAhead e_g_waySteps e_g_wayWidth hv
    subst e_v3
    subst e_v4
    subst e_g_lanes
    subst e_g_from
    subst e_g_to
    subst e_g_width
    subst e_g_length
    subst e_g_shut
    subst e_g_safeRooms
    subst e_g_people
    subst e_g_led
    subst e_g_notLed
    subst e_g_entering
    subst e_g_latest
    subst e_g_step
    subst e_g_wayEntry
    subst e_g_wayAhead
    subst e_g_waySteps
    subst e_g_wayWidth
    rw [iv_X4_helps_L49] at hv
    rw [vc_X4_helps_L49]
    obtain ⟨hs_11, hv⟩ := hv
    have q_12 := z_le (x := (iz q_passages)) (a := q_passages) (by first | with_reducible rfl | simp only [zl, iz_add, iz_sub, iz_mul, iz_neg]) (y := (iz v4)) (b := v4) (by first | with_reducible rfl | simp only [zl, iz_add, iz_sub, iz_mul, iz_neg]) hs_11.1 hs_11.2
    refine ⟨fun c9 => ?_, fun c9 => ?_⟩
    · have hv := hv.1 (q_12.mp c9)
      exact hKx _ _ _ _ _ _ _ _ _ _ _ _ _ _ _ _ _ _ v3 g_lanes g_from g_to g_width g_length g_shut g_safeRooms g_people g_led g_notLed g_entering g_latest g_step g_wayEntry g_wayAhead g_waySteps g_wayWidth hv (by first | with_reducible rfl | simp only [zl, iz_add, iz_sub, iz_mul, iz_neg]) (by first | with_reducible rfl | simp only [zl, iz_add, iz_sub, iz_mul, iz_neg]) (by first | with_reducible rfl | simp only [zl, iz_add, iz_sub, iz_mul, iz_neg]) (by first | with_reducible rfl | simp only [zl, iz_add, iz_sub, iz_mul, iz_neg]) (by first | with_reducible rfl | simp only [zl, iz_add, iz_sub, iz_mul, iz_neg]) (by first | with_reducible rfl | simp only [zl, iz_add, iz_sub, iz_mul, iz_neg]) (by first | with_reducible rfl | simp only [zl, iz_add, iz_sub, iz_mul, iz_neg]) (by first | with_reducible rfl | simp only [zl, iz_add, iz_sub, iz_mul, iz_neg]) (by first | with_reducible rfl | simp only [zl, iz_add, iz_sub, iz_mul, iz_neg]) (by first | with_reducible rfl | simp only [zl, iz_add, iz_sub, iz_mul, iz_neg]) (by first | with_reducible rfl | simp only [zl, iz_add, iz_sub, iz_mul, iz_neg]) (by first | with_reducible rfl | simp only [zl, iz_add, iz_sub, iz_mul, iz_neg]) (by first | with_reducible rfl | simp only [zl, iz_add, iz_sub, iz_mul, iz_neg]) (by first | with_reducible rfl | simp only [zl, iz_add, iz_sub, iz_mul, iz_neg]) (by first | with_reducible rfl | simp only [zl, iz_add, iz_sub, iz_mul, iz_neg]) (by first | with_reducible rfl | simp only [zl, iz_add, iz_sub, iz_mul, iz_neg]) (by first | with_reducible rfl | simp only [zl, iz_add, iz_sub, iz_mul, iz_neg]) (by first | with_reducible rfl | simp only [zl, iz_add, iz_sub, iz_mul, iz_neg])
    · have hv := hv.2 (fun z9 => c9 (q_12.mpr z9))
      refine lift_X0_copy (by first | with_reducible rfl | simp only [zl, iz_add, iz_sub, iz_mul, iz_neg]) (by first | with_reducible rfl | simp only [zl, iz_add, iz_sub, iz_mul, iz_neg]) (by first | with_reducible rfl | simp only [zl, iz_add, iz_sub, iz_mul, iz_neg]) (by first | with_reducible rfl | simp only [zl, iz_add, iz_sub, iz_mul, iz_neg]) (by first | with_reducible rfl | simp only [zl, iz_add, iz_sub, iz_mul, iz_neg]) (by first | with_reducible rfl | simp only [zl, iz_add, iz_sub, iz_mul, iz_neg]) (by first | with_reducible rfl | simp only [zl, iz_add, iz_sub, iz_mul, iz_neg]) (by first | with_reducible rfl | simp only [zl, iz_add, iz_sub, iz_mul, iz_neg]) (by first | with_reducible rfl | simp only [zl, iz_add, iz_sub, iz_mul, iz_neg]) (by first | with_reducible rfl | simp only [zl, iz_add, iz_sub, iz_mul, iz_neg]) (by first | with_reducible rfl | simp only [zl, iz_add, iz_sub, iz_mul, iz_neg]) (by first | with_reducible rfl | simp only [zl, iz_add, iz_sub, iz_mul, iz_neg]) (by first | with_reducible rfl | simp only [zl, iz_add, iz_sub, iz_mul, iz_neg]) (by first | with_reducible rfl | simp only [zl, iz_add, iz_sub, iz_mul, iz_neg]) (by first | with_reducible rfl | simp only [zl, iz_add, iz_sub, iz_mul, iz_neg]) (by first | with_reducible rfl | simp only [zl, iz_add, iz_sub, iz_mul, iz_neg]) (by first | with_reducible rfl | simp only [zl, iz_add, iz_sub, iz_mul, iz_neg]) (by first | with_reducible rfl | simp only [zl, iz_add, iz_sub, iz_mul, iz_neg]) (by first | with_reducible rfl | simp only [zl, iz_add, iz_sub, iz_mul, iz_neg]) (by first | with_reducible rfl | simp only [zl, iz_add, iz_sub, iz_mul, iz_neg]) (by first | with_reducible rfl | simp only [zl, iz_add, iz_sub, iz_mul, iz_neg]) (by first | with_reducible rfl | simp only [zl, iz_add, iz_sub, iz_mul, iz_neg]) hv (fun u_13 y_15 hv eu_17 => ?_)
      subst eu_17
      try dsimp only
      obtain ⟨hi_18, hv⟩ := hv
      refine ⟨z_in (by first | with_reducible rfl | simp only [zl, iz_add, iz_sub, iz_mul, iz_neg]) hi_18 (by decide), ?_⟩
      have e_19 : ((az q_width) ((iz v4)).toNatClampNeg) = iz (q_width v4.toNat) := z_at (by first | with_reducible rfl | simp only [zl, iz_add, iz_sub, iz_mul, iz_neg]) (by first | with_reducible rfl | simp only [zl, iz_add, iz_sub, iz_mul, iz_neg]) hi_18 (by decide)
      try rw [e_19]
      refine lift_X0_setWidth (by first | with_reducible rfl | simp only [zl, iz_add, iz_sub, iz_mul, iz_neg]) (by first | with_reducible rfl | simp only [zl, iz_add, iz_sub, iz_mul, iz_neg]) (by first | with_reducible rfl | simp only [zl, iz_add, iz_sub, iz_mul, iz_neg]) hv (fun u_20 y_22 hv eu_24 => ?_)
      subst eu_24
      try dsimp only
      refine lift_X0_leadsAllBy (by first | with_reducible rfl | simp only [zl, iz_add, iz_sub, iz_mul, iz_neg]) (by first | with_reducible rfl | simp only [zl, iz_add, iz_sub, iz_mul, iz_neg]) (by first | with_reducible rfl | simp only [zl, iz_add, iz_sub, iz_mul, iz_neg]) (by first | with_reducible rfl | simp only [zl, iz_add, iz_sub, iz_mul, iz_neg]) (by first | with_reducible rfl | simp only [zl, iz_add, iz_sub, iz_mul, iz_neg]) (by first | with_reducible rfl | simp only [zl, iz_add, iz_sub, iz_mul, iz_neg]) (by first | with_reducible rfl | simp only [zl, iz_add, iz_sub, iz_mul, iz_neg]) (by first | with_reducible rfl | simp only [zl, iz_add, iz_sub, iz_mul, iz_neg]) (by first | with_reducible rfl | simp only [zl, iz_add, iz_sub, iz_mul, iz_neg]) (by first | with_reducible rfl | simp only [zl, iz_add, iz_sub, iz_mul, iz_neg]) (by first | with_reducible rfl | simp only [zl, iz_add, iz_sub, iz_mul, iz_neg]) (by first | with_reducible rfl | simp only [zl, iz_add, iz_sub, iz_mul, iz_neg]) (by first | with_reducible rfl | simp only [zl, iz_add, iz_sub, iz_mul, iz_neg]) (by first | with_reducible rfl | simp only [zl, iz_add, iz_sub, iz_mul, iz_neg]) (by first | with_reducible rfl | simp only [zl, iz_add, iz_sub, iz_mul, iz_neg]) (by first | with_reducible rfl | simp only [zl, iz_add, iz_sub, iz_mul, iz_neg]) (by first | with_reducible rfl | simp only [zl, iz_add, iz_sub, iz_mul, iz_neg]) (by first | with_reducible rfl | simp only [zl, iz_add, iz_sub, iz_mul, iz_neg]) hv (fun r_26 u_25 y_27 y_28 hv er_29 eu_30 => ?_)
      subst er_29; subst eu_30
      try dsimp only
      obtain ⟨hs_31, hv⟩ := hv
      have q_32 := z_eq (x := (iz r_26)) (a := r_26) (by first | with_reducible rfl | simp only [zl, iz_add, iz_sub, iz_mul, iz_neg]) (y := 0) (b := 0) (by first | with_reducible rfl | simp only [zl, iz_add, iz_sub, iz_mul, iz_neg]) hs_31.1 hs_31.2
      refine ⟨fun c9 => ?_, fun c9 => ?_⟩
      · have hv := hv.1 (q_32.mp c9)
        intro y_34 hy_34
        obtain ⟨x4_33, hx4_33⟩ : ∃ z : Int, z = v4 + 1 := ⟨_, rfl⟩
        have hv := hv x4_33 hx4_33
        have ey_34 : y_34 = iz x4_33 := by rw [hy_34, hx4_33]; try exact (by first | with_reducible rfl | simp only [zl, iz_add, iz_sub, iz_mul, iz_neg])
        subst ey_34
        exact ih _ _ _ _ _ _ _ _ _ _ _ _ _ _ _ _ _ _ _ v3 x4_33 u_13.1 u_13.2.1 u_13.2.2.1 u_20 u_13.2.2.2.2.1 u_13.2.2.2.2.2.1 u_13.2.2.2.2.2.2.1 u_13.2.2.2.2.2.2.2.1 u_25.1 u_25.2.1 u_25.2.2.1 u_25.2.2.2.1 u_25.2.2.2.2.1 u_25.2.2.2.2.2.1 u_25.2.2.2.2.2.2.1 u_25.2.2.2.2.2.2.2.1 u_25.2.2.2.2.2.2.2.2 (by first | with_reducible rfl | simp only [zl, iz_add, iz_sub, iz_mul, iz_neg]) (by first | with_reducible rfl | simp only [zl, iz_add, iz_sub, iz_mul, iz_neg]) (by first | with_reducible rfl | simp only [zl, iz_add, iz_sub, iz_mul, iz_neg]) (by first | with_reducible rfl | simp only [zl, iz_add, iz_sub, iz_mul, iz_neg]) (by first | with_reducible rfl | simp only [zl, iz_add, iz_sub, iz_mul, iz_neg]) (by first | with_reducible rfl | simp only [zl, iz_add, iz_sub, iz_mul, iz_neg]) (by first | with_reducible rfl | simp only [zl, iz_add, iz_sub, iz_mul, iz_neg]) (by first | with_reducible rfl | simp only [zl, iz_add, iz_sub, iz_mul, iz_neg]) (by first | with_reducible rfl | simp only [zl, iz_add, iz_sub, iz_mul, iz_neg]) (by first | with_reducible rfl | simp only [zl, iz_add, iz_sub, iz_mul, iz_neg]) (by first | with_reducible rfl | simp only [zl, iz_add, iz_sub, iz_mul, iz_neg]) (by first | with_reducible rfl | simp only [zl, iz_add, iz_sub, iz_mul, iz_neg]) (by first | with_reducible rfl | simp only [zl, iz_add, iz_sub, iz_mul, iz_neg]) (by first | with_reducible rfl | simp only [zl, iz_add, iz_sub, iz_mul, iz_neg]) (by first | with_reducible rfl | simp only [zl, iz_add, iz_sub, iz_mul, iz_neg]) (by first | with_reducible rfl | simp only [zl, iz_add, iz_sub, iz_mul, iz_neg]) (by first | with_reducible rfl | simp only [zl, iz_add, iz_sub, iz_mul, iz_neg]) (by first | with_reducible rfl | simp only [zl, iz_add, iz_sub, iz_mul, iz_neg]) (by first | with_reducible rfl | simp only [zl, iz_add, iz_sub, iz_mul, iz_neg]) hv
      · have hv := hv.2 (fun z9 => c9 (q_32.mpr z9))
        obtain ⟨hc_35, hv⟩ := hv
        have e_36 : (1 <<< ((iz v4) &&& 31)) = iz (2 ^ (v4).toNat) := z_shl (by first | with_reducible rfl | simp only [zl, iz_add, iz_sub, iz_mul, iz_neg]) hc_35
        try rw [e_36]
        obtain ⟨hc_37, hv⟩ := hv
        have e_38 : ((iz v3) ||| (iz (2 ^ (v4).toNat))) = iz (zor v3 (2 ^ (v4).toNat)) := z_or (by first | with_reducible rfl | simp only [zl, iz_add, iz_sub, iz_mul, iz_neg]) (by first | with_reducible rfl | simp only [zl, iz_add, iz_sub, iz_mul, iz_neg]) hc_37.1 hc_37.2
        try rw [e_38]
        intro y_40 hy_40
        obtain ⟨x3_39, hx3_39⟩ : ∃ z : Int, z = (zor v3 (2 ^ (v4).toNat)) := ⟨_, rfl⟩
        have hv := hv x3_39 hx3_39
        have ey_40 : y_40 = iz x3_39 := by rw [hy_40, hx3_39]; try exact (by first | with_reducible rfl | simp only [zl, iz_add, iz_sub, iz_mul, iz_neg])
        subst ey_40
        intro y_42 hy_42
        obtain ⟨x4_41, hx4_41⟩ : ∃ z : Int, z = v4 + 1 := ⟨_, rfl⟩
        have hv := hv x4_41 hx4_41
        have ey_42 : y_42 = iz x4_41 := by rw [hy_42, hx4_41]; try exact (by first | with_reducible rfl | simp only [zl, iz_add, iz_sub, iz_mul, iz_neg])
        subst ey_42
        exact ih _ _ _ _ _ _ _ _ _ _ _ _ _ _ _ _ _ _ _ x3_39 x4_41 u_13.1 u_13.2.1 u_13.2.2.1 u_20 u_13.2.2.2.2.1 u_13.2.2.2.2.2.1 u_13.2.2.2.2.2.2.1 u_13.2.2.2.2.2.2.2.1 u_25.1 u_25.2.1 u_25.2.2.1 u_25.2.2.2.1 u_25.2.2.2.2.1 u_25.2.2.2.2.2.1 u_25.2.2.2.2.2.2.1 u_25.2.2.2.2.2.2.2.1 u_25.2.2.2.2.2.2.2.2 (by first | with_reducible rfl | simp only [zl, iz_add, iz_sub, iz_mul, iz_neg]) (by first | with_reducible rfl | simp only [zl, iz_add, iz_sub, iz_mul, iz_neg]) (by first | with_reducible rfl | simp only [zl, iz_add, iz_sub, iz_mul, iz_neg]) (by first | with_reducible rfl | simp only [zl, iz_add, iz_sub, iz_mul, iz_neg]) (by first | with_reducible rfl | simp only [zl, iz_add, iz_sub, iz_mul, iz_neg]) (by first | with_reducible rfl | simp only [zl, iz_add, iz_sub, iz_mul, iz_neg]) (by first | with_reducible rfl | simp only [zl, iz_add, iz_sub, iz_mul, iz_neg]) (by first | with_reducible rfl | simp only [zl, iz_add, iz_sub, iz_mul, iz_neg]) (by first | with_reducible rfl | simp only [zl, iz_add, iz_sub, iz_mul, iz_neg]) (by first | with_reducible rfl | simp only [zl, iz_add, iz_sub, iz_mul, iz_neg]) (by first | with_reducible rfl | simp only [zl, iz_add, iz_sub, iz_mul, iz_neg]) (by first | with_reducible rfl | simp only [zl, iz_add, iz_sub, iz_mul, iz_neg]) (by first | with_reducible rfl | simp only [zl, iz_add, iz_sub, iz_mul, iz_neg]) (by first | with_reducible rfl | simp only [zl, iz_add, iz_sub, iz_mul, iz_neg]) (by first | with_reducible rfl | simp only [zl, iz_add, iz_sub, iz_mul, iz_neg]) (by first | with_reducible rfl | simp only [zl, iz_add, iz_sub, iz_mul, iz_neg]) (by first | with_reducible rfl | simp only [zl, iz_add, iz_sub, iz_mul, iz_neg]) (by first | with_reducible rfl | simp only [zl, iz_add, iz_sub, iz_mul, iz_neg]) (by first | with_reducible rfl | simp only [zl, iz_add, iz_sub, iz_mul, iz_neg]) hv

def iv_X4_helps (q_people : (Nat → Int)) (q_safeRooms : Int) (q_passages : Int) (q_from : (Nat → Int)) (q_to : (Nat → Int)) (q_width : (Nat → Int)) (q_length : (Nat → Int)) (q_shut : (Nat → Int)) (f_lanes : Int) (f_from : (Nat → Int)) (f_to : (Nat → Int)) (f_width : (Nat → Int)) (f_length : (Nat → Int)) (f_shut : (Nat → Int)) (f_safeRooms : Int) (f_people : Int) (f_led : Int) (f_notLed : (Nat → Int)) (f_entering : (Nat → Int)) (f_latest : (Nat → Int)) (f_step : (Nat → Int)) (f_wayEntry : (Nat → Int)) (f_wayAhead : (Nat → Int)) (f_waySteps : Int) (f_wayWidth : Int) (g_lanes : Int) (g_from : (Nat → Int)) (g_to : (Nat → Int)) (g_width : (Nat → Int)) (g_length : (Nat → Int)) (g_shut : (Nat → Int)) (g_safeRooms : Int) (g_people : Int) (g_led : Int) (g_notLed : (Nat → Int)) (g_entering : (Nat → Int)) (g_latest : (Nat → Int)) (g_step : (Nat → Int)) (g_wayEntry : (Nat → Int)) (g_wayAhead : (Nat → Int)) (g_waySteps : Int) (g_wayWidth : Int) (post : Int → (Int × (Nat → Int) × (Nat → Int) × (Nat → Int) × (Nat → Int) × (Nat → Int) × Int × Int × Int × (Nat → Int) × (Nat → Int) × (Nat → Int) × (Nat → Int) × (Nat → Int) × (Nat → Int) × Int × Int × Int × (Nat → Int) × (Nat → Int) × (Nat → Int) × (Nat → Int) × (Nat → Int) × Int × Int × Int × (Nat → Int) × (Nat → Int) × (Nat → Int) × (Nat → Int) × (Nat → Int) × (Nat → Int) × Int × Int) → Prop) : Prop :=
  (iv_X4_leadAll q_people q_safeRooms q_passages q_from q_to q_width q_length q_shut f_lanes f_from f_to f_width f_length f_shut f_safeRooms f_people f_led f_notLed f_entering f_latest f_step f_wayEntry f_wayAhead f_waySteps f_wayWidth (fun (r_2 : Int) (u_1 : Int × (Nat → Int) × (Nat → Int) × (Nat → Int) × (Nat → Int) × (Nat → Int) × Int × Int × Int × (Nat → Int) × (Nat → Int) × (Nat → Int) × (Nat → Int) × (Nat → Int) × (Nat → Int) × Int × Int) => ((sm r_2 ∧ sm 0) ∧ ((¬ r_2 = 0 → ((sm r_2 ∧ sm (-6)) ∧ ((r_2 = (-6) → (∃ n_61, iv_X4_helps_L49 (fun k3_43 g_lanes_44 g_from_45 g_to_46 g_width_47 g_length_48 g_shut_49 g_safeRooms_50 g_people_51 g_led_52 g_notLed_53 g_entering_54 g_latest_55 g_step_56 g_wayEntry_57 g_wayAhead_58 g_waySteps_59 g_wayWidth_60 => post k3_43 (u_1.1, u_1.2.1, u_1.2.2.1, u_1.2.2.2.1, u_1.2.2.2.2.1, u_1.2.2.2.2.2.1, u_1.2.2.2.2.2.2.1, u_1.2.2.2.2.2.2.2.1, u_1.2.2.2.2.2.2.2.2.1, u_1.2.2.2.2.2.2.2.2.2.1, u_1.2.2.2.2.2.2.2.2.2.2.1, u_1.2.2.2.2.2.2.2.2.2.2.2.1, u_1.2.2.2.2.2.2.2.2.2.2.2.2.1, u_1.2.2.2.2.2.2.2.2.2.2.2.2.2.1, u_1.2.2.2.2.2.2.2.2.2.2.2.2.2.2.1, u_1.2.2.2.2.2.2.2.2.2.2.2.2.2.2.2.1, u_1.2.2.2.2.2.2.2.2.2.2.2.2.2.2.2.2, g_lanes_44, g_from_45, g_to_46, g_width_47, g_length_48, g_shut_49, g_safeRooms_50, g_people_51, g_led_52, g_notLed_53, g_entering_54, g_latest_55, g_step_56, g_wayEntry_57, g_wayAhead_58, g_waySteps_59, g_wayWidth_60))  60 q_passages q_width u_1.1 u_1.2.1 u_1.2.2.1 u_1.2.2.2.1 u_1.2.2.2.2.1 u_1.2.2.2.2.2.1 u_1.2.2.2.2.2.2.1 u_1.2.2.2.2.2.2.2.1 u_1.2.2.2.2.2.2.2.2.1 u_1.2.2.2.2.2.2.2.2.2.1 u_1.2.2.2.2.2.2.2.2.2.2.1 n_61 0 0 g_lanes g_from g_to g_width g_length g_shut g_safeRooms g_people g_led g_notLed g_entering g_latest g_step g_wayEntry g_wayAhead g_waySteps g_wayWidth)) ∧ (¬ r_2 = (-6) → (∀ x2_98 : Int, x2_98 = (r_2 - 1) → (iv_X0_begin u_1.1 u_1.2.1 u_1.2.2.1 u_1.2.2.2.1 u_1.2.2.2.2.1 u_1.2.2.2.2.2.1 u_1.2.2.2.2.2.2.1 u_1.2.2.2.2.2.2.2.1 u_1.2.2.2.2.2.2.2.2.1 u_1.2.2.2.2.2.2.2.2.2.1 u_1.2.2.2.2.2.2.2.2.2.2.1 q_people q_safeRooms q_passages q_from q_to q_width q_length q_shut (fun (u_100 : Int × (Nat → Int) × (Nat → Int) × (Nat → Int) × (Nat → Int) × (Nat → Int) × Int × Int × Int × (Nat → Int) × (Nat → Int)) => (iv_X0_leadBy x2_98 u_100.1 u_100.2.1 u_100.2.2.1 u_100.2.2.2.1 u_100.2.2.2.2.1 u_100.2.2.2.2.2.1 u_100.2.2.2.2.2.2.1 u_100.2.2.2.2.2.2.2.1 u_100.2.2.2.2.2.2.2.2.1 u_100.2.2.2.2.2.2.2.2.2.1 u_100.2.2.2.2.2.2.2.2.2.2 u_1.2.2.2.2.2.2.2.2.2.2.2.1 u_1.2.2.2.2.2.2.2.2.2.2.2.2.1 u_1.2.2.2.2.2.2.2.2.2.2.2.2.2.1 u_1.2.2.2.2.2.2.2.2.2.2.2.2.2.2.1 u_1.2.2.2.2.2.2.2.2.2.2.2.2.2.2.2.1 u_1.2.2.2.2.2.2.2.2.2.2.2.2.2.2.2.2 (fun (r_106 : Int) (u_105 : Int × (Nat → Int) × (Nat → Int) × (Nat → Int) × (Nat → Int) × (Nat → Int) × (Nat → Int) × Int × Int) => (∃ n_129, iv_X4_helps_L49 (fun k3_111 g_lanes_112 g_from_113 g_to_114 g_width_115 g_length_116 g_shut_117 g_safeRooms_118 g_people_119 g_led_120 g_notLed_121 g_entering_122 g_latest_123 g_step_124 g_wayEntry_125 g_wayAhead_126 g_waySteps_127 g_wayWidth_128 => post k3_111 (u_100.1, u_100.2.1, u_100.2.2.1, u_100.2.2.2.1, u_100.2.2.2.2.1, u_100.2.2.2.2.2.1, u_100.2.2.2.2.2.2.1, u_100.2.2.2.2.2.2.2.1, u_105.1, u_105.2.1, u_105.2.2.1, u_105.2.2.2.1, u_105.2.2.2.2.1, u_105.2.2.2.2.2.1, u_105.2.2.2.2.2.2.1, u_105.2.2.2.2.2.2.2.1, u_105.2.2.2.2.2.2.2.2, g_lanes_112, g_from_113, g_to_114, g_width_115, g_length_116, g_shut_117, g_safeRooms_118, g_people_119, g_led_120, g_notLed_121, g_entering_122, g_latest_123, g_step_124, g_wayEntry_125, g_wayAhead_126, g_waySteps_127, g_wayWidth_128))  x2_98 q_passages q_width u_100.1 u_100.2.1 u_100.2.2.1 u_100.2.2.2.1 u_100.2.2.2.2.1 u_100.2.2.2.2.2.1 u_100.2.2.2.2.2.2.1 u_100.2.2.2.2.2.2.2.1 u_105.1 u_105.2.1 u_105.2.2.1 n_129 0 0 g_lanes g_from g_to g_width g_length g_shut g_safeRooms g_people g_led g_notLed g_entering g_latest g_step g_wayEntry g_wayAhead g_waySteps g_wayWidth)))))))))) ∧ (r_2 = 0 → post 0 (u_1.1, u_1.2.1, u_1.2.2.1, u_1.2.2.2.1, u_1.2.2.2.2.1, u_1.2.2.2.2.2.1, u_1.2.2.2.2.2.2.1, u_1.2.2.2.2.2.2.2.1, u_1.2.2.2.2.2.2.2.2.1, u_1.2.2.2.2.2.2.2.2.2.1, u_1.2.2.2.2.2.2.2.2.2.2.1, u_1.2.2.2.2.2.2.2.2.2.2.2.1, u_1.2.2.2.2.2.2.2.2.2.2.2.2.1, u_1.2.2.2.2.2.2.2.2.2.2.2.2.2.1, u_1.2.2.2.2.2.2.2.2.2.2.2.2.2.2.1, u_1.2.2.2.2.2.2.2.2.2.2.2.2.2.2.2.1, u_1.2.2.2.2.2.2.2.2.2.2.2.2.2.2.2.2, g_lanes, g_from, g_to, g_width, g_length, g_shut, g_safeRooms, g_people, g_led, g_notLed, g_entering, g_latest, g_step, g_wayEntry, g_wayAhead, g_waySteps, g_wayWidth))))))

set_option maxHeartbeats 4000000 in
theorem lift_X4_helps {q_people' : (Nat → Int32)} {q_people : (Nat → Int)} {q_safeRooms' : Int32} {q_safeRooms : Int} {q_passages' : Int32} {q_passages : Int} {q_from' : (Nat → Int32)} {q_from : (Nat → Int)} {q_to' : (Nat → Int32)} {q_to : (Nat → Int)} {q_width' : (Nat → Int32)} {q_width : (Nat → Int)} {q_length' : (Nat → Int32)} {q_length : (Nat → Int)} {q_shut' : (Nat → Int32)} {q_shut : (Nat → Int)} {f_lanes' : Int32} {f_lanes : Int} {f_from' : (Nat → Int32)} {f_from : (Nat → Int)} {f_to' : (Nat → Int32)} {f_to : (Nat → Int)} {f_width' : (Nat → Int32)} {f_width : (Nat → Int)} {f_length' : (Nat → Int32)} {f_length : (Nat → Int)} {f_shut' : (Nat → Int32)} {f_shut : (Nat → Int)} {f_safeRooms' : Int32} {f_safeRooms : Int} {f_people' : Int32} {f_people : Int} {f_led' : Int32} {f_led : Int} {f_notLed' : (Nat → Int32)} {f_notLed : (Nat → Int)} {f_entering' : (Nat → Int32)} {f_entering : (Nat → Int)} {f_latest' : (Nat → Int32)} {f_latest : (Nat → Int)} {f_step' : (Nat → Int32)} {f_step : (Nat → Int)} {f_wayEntry' : (Nat → Int32)} {f_wayEntry : (Nat → Int)} {f_wayAhead' : (Nat → Int32)} {f_wayAhead : (Nat → Int)} {f_waySteps' : Int32} {f_waySteps : Int} {f_wayWidth' : Int32} {f_wayWidth : Int} {g_lanes' : Int32} {g_lanes : Int} {g_from' : (Nat → Int32)} {g_from : (Nat → Int)} {g_to' : (Nat → Int32)} {g_to : (Nat → Int)} {g_width' : (Nat → Int32)} {g_width : (Nat → Int)} {g_length' : (Nat → Int32)} {g_length : (Nat → Int)} {g_shut' : (Nat → Int32)} {g_shut : (Nat → Int)} {g_safeRooms' : Int32} {g_safeRooms : Int} {g_people' : Int32} {g_people : Int} {g_led' : Int32} {g_led : Int} {g_notLed' : (Nat → Int32)} {g_notLed : (Nat → Int)} {g_entering' : (Nat → Int32)} {g_entering : (Nat → Int)} {g_latest' : (Nat → Int32)} {g_latest : (Nat → Int)} {g_step' : (Nat → Int32)} {g_step : (Nat → Int)} {g_wayEntry' : (Nat → Int32)} {g_wayEntry : (Nat → Int)} {g_wayAhead' : (Nat → Int32)} {g_wayAhead : (Nat → Int)} {g_waySteps' : Int32} {g_waySteps : Int} {g_wayWidth' : Int32} {g_wayWidth : Int} (e_q_people : q_people' = az q_people) (e_q_safeRooms : q_safeRooms' = iz q_safeRooms) (e_q_passages : q_passages' = iz q_passages) (e_q_from : q_from' = az q_from) (e_q_to : q_to' = az q_to) (e_q_width : q_width' = az q_width) (e_q_length : q_length' = az q_length) (e_q_shut : q_shut' = az q_shut) (e_f_lanes : f_lanes' = iz f_lanes) (e_f_from : f_from' = az f_from) (e_f_to : f_to' = az f_to) (e_f_width : f_width' = az f_width) (e_f_length : f_length' = az f_length) (e_f_shut : f_shut' = az f_shut) (e_f_safeRooms : f_safeRooms' = iz f_safeRooms) (e_f_people : f_people' = iz f_people) (e_f_led : f_led' = iz f_led) (e_f_notLed : f_notLed' = az f_notLed) (e_f_entering : f_entering' = az f_entering) (e_f_latest : f_latest' = az f_latest) (e_f_step : f_step' = az f_step) (e_f_wayEntry : f_wayEntry' = az f_wayEntry) (e_f_wayAhead : f_wayAhead' = az f_wayAhead) (e_f_waySteps : f_waySteps' = iz f_waySteps) (e_f_wayWidth : f_wayWidth' = iz f_wayWidth) (e_g_lanes : g_lanes' = iz g_lanes) (e_g_from : g_from' = az g_from) (e_g_to : g_to' = az g_to) (e_g_width : g_width' = az g_width) (e_g_length : g_length' = az g_length) (e_g_shut : g_shut' = az g_shut) (e_g_safeRooms : g_safeRooms' = iz g_safeRooms) (e_g_people : g_people' = iz g_people) (e_g_led : g_led' = iz g_led) (e_g_notLed : g_notLed' = az g_notLed) (e_g_entering : g_entering' = az g_entering) (e_g_latest : g_latest' = az g_latest) (e_g_step : g_step' = az g_step) (e_g_wayEntry : g_wayEntry' = az g_wayEntry) (e_g_wayAhead : g_wayAhead' = az g_wayAhead) (e_g_waySteps : g_waySteps' = iz g_waySteps) (e_g_wayWidth : g_wayWidth' = iz g_wayWidth) {post0 : Int32 → (Int32 × (Nat → Int32) × (Nat → Int32) × (Nat → Int32) × (Nat → Int32) × (Nat → Int32) × Int32 × Int32 × Int32 × (Nat → Int32) × (Nat → Int32) × (Nat → Int32) × (Nat → Int32) × (Nat → Int32) × (Nat → Int32) × Int32 × Int32 × Int32 × (Nat → Int32) × (Nat → Int32) × (Nat → Int32) × (Nat → Int32) × (Nat → Int32) × Int32 × Int32 × Int32 × (Nat → Int32) × (Nat → Int32) × (Nat → Int32) × (Nat → Int32) × (Nat → Int32) × (Nat → Int32) × Int32 × Int32) → Prop} {post : Int → (Int × (Nat → Int) × (Nat → Int) × (Nat → Int) × (Nat → Int) × (Nat → Int) × Int × Int × Int × (Nat → Int) × (Nat → Int) × (Nat → Int) × (Nat → Int) × (Nat → Int) × (Nat → Int) × Int × Int × Int × (Nat → Int) × (Nat → Int) × (Nat → Int) × (Nat → Int) × (Nat → Int) × Int × Int × Int × (Nat → Int) × (Nat → Int) × (Nat → Int) × (Nat → Int) × (Nat → Int) × (Nat → Int) × Int × Int) → Prop} (hv : iv_X4_helps q_people q_safeRooms q_passages q_from q_to q_width q_length q_shut f_lanes f_from f_to f_width f_length f_shut f_safeRooms f_people f_led f_notLed f_entering f_latest f_step f_wayEntry f_wayAhead f_waySteps f_wayWidth g_lanes g_from g_to g_width g_length g_shut g_safeRooms g_people g_led g_notLed g_entering g_latest g_step g_wayEntry g_wayAhead g_waySteps g_wayWidth post) (hp : ∀ (r : Int) (u : Int × (Nat → Int) × (Nat → Int) × (Nat → Int) × (Nat → Int) × (Nat → Int) × Int × Int × Int × (Nat → Int) × (Nat → Int) × (Nat → Int) × (Nat → Int) × (Nat → Int) × (Nat → Int) × Int × Int × Int × (Nat → Int) × (Nat → Int) × (Nat → Int) × (Nat → Int) × (Nat → Int) × Int × Int × Int × (Nat → Int) × (Nat → Int) × (Nat → Int) × (Nat → Int) × (Nat → Int) × (Nat → Int) × Int × Int) (x : Int32) (y : Int32 × (Nat → Int32) × (Nat → Int32) × (Nat → Int32) × (Nat → Int32) × (Nat → Int32) × Int32 × Int32 × Int32 × (Nat → Int32) × (Nat → Int32) × (Nat → Int32) × (Nat → Int32) × (Nat → Int32) × (Nat → Int32) × Int32 × Int32 × Int32 × (Nat → Int32) × (Nat → Int32) × (Nat → Int32) × (Nat → Int32) × (Nat → Int32) × Int32 × Int32 × Int32 × (Nat → Int32) × (Nat → Int32) × (Nat → Int32) × (Nat → Int32) × (Nat → Int32) × (Nat → Int32) × Int32 × Int32), post r u → x = iz r → y = (iz u.1, az u.2.1, az u.2.2.1, az u.2.2.2.1, az u.2.2.2.2.1, az u.2.2.2.2.2.1, iz u.2.2.2.2.2.2.1, iz u.2.2.2.2.2.2.2.1, iz u.2.2.2.2.2.2.2.2.1, az u.2.2.2.2.2.2.2.2.2.1, az u.2.2.2.2.2.2.2.2.2.2.1, az u.2.2.2.2.2.2.2.2.2.2.2.1, az u.2.2.2.2.2.2.2.2.2.2.2.2.1, az u.2.2.2.2.2.2.2.2.2.2.2.2.2.1, az u.2.2.2.2.2.2.2.2.2.2.2.2.2.2.1, iz u.2.2.2.2.2.2.2.2.2.2.2.2.2.2.2.1, iz u.2.2.2.2.2.2.2.2.2.2.2.2.2.2.2.2.1, iz u.2.2.2.2.2.2.2.2.2.2.2.2.2.2.2.2.2.1, az u.2.2.2.2.2.2.2.2.2.2.2.2.2.2.2.2.2.2.1, az u.2.2.2.2.2.2.2.2.2.2.2.2.2.2.2.2.2.2.2.1, az u.2.2.2.2.2.2.2.2.2.2.2.2.2.2.2.2.2.2.2.2.1, az u.2.2.2.2.2.2.2.2.2.2.2.2.2.2.2.2.2.2.2.2.2.1, az u.2.2.2.2.2.2.2.2.2.2.2.2.2.2.2.2.2.2.2.2.2.2.1, iz u.2.2.2.2.2.2.2.2.2.2.2.2.2.2.2.2.2.2.2.2.2.2.2.1, iz u.2.2.2.2.2.2.2.2.2.2.2.2.2.2.2.2.2.2.2.2.2.2.2.2.1, iz u.2.2.2.2.2.2.2.2.2.2.2.2.2.2.2.2.2.2.2.2.2.2.2.2.2.1, az u.2.2.2.2.2.2.2.2.2.2.2.2.2.2.2.2.2.2.2.2.2.2.2.2.2.2.1, az u.2.2.2.2.2.2.2.2.2.2.2.2.2.2.2.2.2.2.2.2.2.2.2.2.2.2.2.1, az u.2.2.2.2.2.2.2.2.2.2.2.2.2.2.2.2.2.2.2.2.2.2.2.2.2.2.2.2.1, az u.2.2.2.2.2.2.2.2.2.2.2.2.2.2.2.2.2.2.2.2.2.2.2.2.2.2.2.2.2.1, az u.2.2.2.2.2.2.2.2.2.2.2.2.2.2.2.2.2.2.2.2.2.2.2.2.2.2.2.2.2.2.1, az u.2.2.2.2.2.2.2.2.2.2.2.2.2.2.2.2.2.2.2.2.2.2.2.2.2.2.2.2.2.2.2.1, iz u.2.2.2.2.2.2.2.2.2.2.2.2.2.2.2.2.2.2.2.2.2.2.2.2.2.2.2.2.2.2.2.2.1, iz u.2.2.2.2.2.2.2.2.2.2.2.2.2.2.2.2.2.2.2.2.2.2.2.2.2.2.2.2.2.2.2.2.2) → post0 x y) : vc_X4_helps q_people' q_safeRooms' q_passages' q_from' q_to' q_width' q_length' q_shut' f_lanes' f_from' f_to' f_width' f_length' f_shut' f_safeRooms' f_people' f_led' f_notLed' f_entering' f_latest' f_step' f_wayEntry' f_wayAhead' f_waySteps' f_wayWidth' g_lanes' g_from' g_to' g_width' g_length' g_shut' g_safeRooms' g_people' g_led' g_notLed' g_entering' g_latest' g_step' g_wayEntry' g_wayAhead' g_waySteps' g_wayWidth' post0 := by
  subst e_q_people
  subst e_q_safeRooms
  subst e_q_passages
  subst e_q_from
  subst e_q_to
  subst e_q_width
  subst e_q_length
  subst e_q_shut
  subst e_f_lanes
  subst e_f_from
  subst e_f_to
  subst e_f_width
  subst e_f_length
  subst e_f_shut
  subst e_f_safeRooms
  subst e_f_people
  subst e_f_led
  subst e_f_notLed
  subst e_f_entering
  subst e_f_latest
  subst e_f_step
  subst e_f_wayEntry
  subst e_f_wayAhead
  subst e_f_waySteps
  subst e_f_wayWidth
  subst e_g_lanes
  subst e_g_from
  subst e_g_to
  subst e_g_width
  subst e_g_length
  subst e_g_shut
  subst e_g_safeRooms
  subst e_g_people
  subst e_g_led
  subst e_g_notLed
  subst e_g_entering
  subst e_g_latest
  subst e_g_step
  subst e_g_wayEntry
  subst e_g_wayAhead
  subst e_g_waySteps
  subst e_g_wayWidth
  rw [iv_X4_helps] at hv
  rw [vc_X4_helps]
  refine lift_X4_leadAll (by first | with_reducible rfl | simp only [zl, iz_add, iz_sub, iz_mul, iz_neg]) (by first | with_reducible rfl | simp only [zl, iz_add, iz_sub, iz_mul, iz_neg]) (by first | with_reducible rfl | simp only [zl, iz_add, iz_sub, iz_mul, iz_neg]) (by first | with_reducible rfl | simp only [zl, iz_add, iz_sub, iz_mul, iz_neg]) (by first | with_reducible rfl | simp only [zl, iz_add, iz_sub, iz_mul, iz_neg]) (by first | with_reducible rfl | simp only [zl, iz_add, iz_sub, iz_mul, iz_neg]) (by first | with_reducible rfl | simp only [zl, iz_add, iz_sub, iz_mul, iz_neg]) (by first | with_reducible rfl | simp only [zl, iz_add, iz_sub, iz_mul, iz_neg]) (by first | with_reducible rfl | simp only [zl, iz_add, iz_sub, iz_mul, iz_neg]) (by first | with_reducible rfl | simp only [zl, iz_add, iz_sub, iz_mul, iz_neg]) (by first | with_reducible rfl | simp only [zl, iz_add, iz_sub, iz_mul, iz_neg]) (by first | with_reducible rfl | simp only [zl, iz_add, iz_sub, iz_mul, iz_neg]) (by first | with_reducible rfl | simp only [zl, iz_add, iz_sub, iz_mul, iz_neg]) (by first | with_reducible rfl | simp only [zl, iz_add, iz_sub, iz_mul, iz_neg]) (by first | with_reducible rfl | simp only [zl, iz_add, iz_sub, iz_mul, iz_neg]) (by first | with_reducible rfl | simp only [zl, iz_add, iz_sub, iz_mul, iz_neg]) (by first | with_reducible rfl | simp only [zl, iz_add, iz_sub, iz_mul, iz_neg]) (by first | with_reducible rfl | simp only [zl, iz_add, iz_sub, iz_mul, iz_neg]) (by first | with_reducible rfl | simp only [zl, iz_add, iz_sub, iz_mul, iz_neg]) (by first | with_reducible rfl | simp only [zl, iz_add, iz_sub, iz_mul, iz_neg]) (by first | with_reducible rfl | simp only [zl, iz_add, iz_sub, iz_mul, iz_neg]) (by first | with_reducible rfl | simp only [zl, iz_add, iz_sub, iz_mul, iz_neg]) (by first | with_reducible rfl | simp only [zl, iz_add, iz_sub, iz_mul, iz_neg]) (by first | with_reducible rfl | simp only [zl, iz_add, iz_sub, iz_mul, iz_neg]) (by first | with_reducible rfl | simp only [zl, iz_add, iz_sub, iz_mul, iz_neg]) hv (fun r_2 u_1 y_3 y_4 hv er_5 eu_6 => ?_)
  subst er_5; subst eu_6
  try dsimp only
  obtain ⟨hs_7, hv⟩ := hv
  have q_8 := z_eq (x := (iz r_2)) (a := r_2) (by first | with_reducible rfl | simp only [zl, iz_add, iz_sub, iz_mul, iz_neg]) (y := 0) (b := 0) (by first | with_reducible rfl | simp only [zl, iz_add, iz_sub, iz_mul, iz_neg]) hs_7.1 hs_7.2
  refine ⟨fun c9 => ?_, fun c9 => ?_⟩
  · have hv := hv.1 (fun z9 => c9 (q_8.mpr z9))
    obtain ⟨hs_9, hv⟩ := hv
    have q_10 := z_eq (x := (iz r_2)) (a := r_2) (by first | with_reducible rfl | simp only [zl, iz_add, iz_sub, iz_mul, iz_neg]) (y := (-6)) (b := (-6)) (by first | with_reducible rfl | simp only [zl, iz_add, iz_sub, iz_mul, iz_neg]) hs_9.1 hs_9.2
    refine ⟨fun c9 => ?_, fun c9 => ?_⟩
    · have hv := hv.1 (q_10.mp c9)
      obtain ⟨n_61, hv⟩ := hv
      refine ⟨n_61, lift_X4_helps_L49 (by first | with_reducible rfl | simp only [zl, iz_add, iz_sub, iz_mul, iz_neg]) (by first | with_reducible rfl | simp only [zl, iz_add, iz_sub, iz_mul, iz_neg]) (by first | with_reducible rfl | simp only [zl, iz_add, iz_sub, iz_mul, iz_neg]) (by first | with_reducible rfl | simp only [zl, iz_add, iz_sub, iz_mul, iz_neg]) (by first | with_reducible rfl | simp only [zl, iz_add, iz_sub, iz_mul, iz_neg]) (by first | with_reducible rfl | simp only [zl, iz_add, iz_sub, iz_mul, iz_neg]) (by first | with_reducible rfl | simp only [zl, iz_add, iz_sub, iz_mul, iz_neg]) (by first | with_reducible rfl | simp only [zl, iz_add, iz_sub, iz_mul, iz_neg]) (by first | with_reducible rfl | simp only [zl, iz_add, iz_sub, iz_mul, iz_neg]) (by first | with_reducible rfl | simp only [zl, iz_add, iz_sub, iz_mul, iz_neg]) (by first | with_reducible rfl | simp only [zl, iz_add, iz_sub, iz_mul, iz_neg]) (by first | with_reducible rfl | simp only [zl, iz_add, iz_sub, iz_mul, iz_neg]) (by first | with_reducible rfl | simp only [zl, iz_add, iz_sub, iz_mul, iz_neg]) (by first | with_reducible rfl | simp only [zl, iz_add, iz_sub, iz_mul, iz_neg]) (fun y_62 y_63 y_64 y_65 y_66 y_67 y_68 y_69 y_70 y_71 y_72 y_73 y_74 y_75 y_76 y_77 y_78 y_79 k3_43 g_lanes_44 g_from_45 g_to_46 g_width_47 g_length_48 g_shut_49 g_safeRooms_50 g_people_51 g_led_52 g_notLed_53 g_entering_54 g_latest_55 g_step_56 g_wayEntry_57 g_wayAhead_58 g_waySteps_59 g_wayWidth_60 hv ey_80 ey_81 ey_82 ey_83 ey_84 ey_85 ey_86 ey_87 ey_88 ey_89 ey_90 ey_91 ey_92 ey_93 ey_94 ey_95 ey_96 ey_97 => ?_)  n_61 _ _ _ _ _ _ _ _ _ _ _ _ _ _ _ _ _ _ _ 0 0 g_lanes g_from g_to g_width g_length g_shut g_safeRooms g_people g_led g_notLed g_entering g_latest g_step g_wayEntry g_wayAhead g_waySteps g_wayWidth (by first | with_reducible rfl | simp only [zl, iz_add, iz_sub, iz_mul, iz_neg]) (by first | with_reducible rfl | simp only [zl, iz_add, iz_sub, iz_mul, iz_neg]) (by first | with_reducible rfl | simp only [zl, iz_add, iz_sub, iz_mul, iz_neg]) (by first | with_reducible rfl | simp only [zl, iz_add, iz_sub, iz_mul, iz_neg]) (by first | with_reducible rfl | simp only [zl, iz_add, iz_sub, iz_mul, iz_neg]) (by first | with_reducible rfl | simp only [zl, iz_add, iz_sub, iz_mul, iz_neg]) (by first | with_reducible rfl | simp only [zl, iz_add, iz_sub, iz_mul, iz_neg]) (by first | with_reducible rfl | simp only [zl, iz_add, iz_sub, iz_mul, iz_neg]) (by first | with_reducible rfl | simp only [zl, iz_add, iz_sub, iz_mul, iz_neg]) (by first | with_reducible rfl | simp only [zl, iz_add, iz_sub, iz_mul, iz_neg]) (by first | with_reducible rfl | simp only [zl, iz_add, iz_sub, iz_mul, iz_neg]) (by first | with_reducible rfl | simp only [zl, iz_add, iz_sub, iz_mul, iz_neg]) (by first | with_reducible rfl | simp only [zl, iz_add, iz_sub, iz_mul, iz_neg]) (by first | with_reducible rfl | simp only [zl, iz_add, iz_sub, iz_mul, iz_neg]) (by first | with_reducible rfl | simp only [zl, iz_add, iz_sub, iz_mul, iz_neg]) (by first | with_reducible rfl | simp only [zl, iz_add, iz_sub, iz_mul, iz_neg]) (by first | with_reducible rfl | simp only [zl, iz_add, iz_sub, iz_mul, iz_neg]) (by first | with_reducible rfl | simp only [zl, iz_add, iz_sub, iz_mul, iz_neg]) (by first | with_reducible rfl | simp only [zl, iz_add, iz_sub, iz_mul, iz_neg]) hv⟩
      subst ey_80
      subst ey_81
      subst ey_82
      subst ey_83
      subst ey_84
      subst ey_85
      subst ey_86
      subst ey_87
      subst ey_88
      subst ey_89
      subst ey_90
      subst ey_91
      subst ey_92
      subst ey_93
      subst ey_94
      subst ey_95
      subst ey_96
      subst ey_97
      exact hp _ _ _ _ hv (by first | with_reducible rfl | simp only [zl, iz_add, iz_sub, iz_mul, iz_neg]) (by first | with_reducible rfl | simp only [zl, iz_add, iz_sub, iz_mul, iz_neg])
    · have hv := hv.2 (fun z9 => c9 (q_10.mpr z9))
      intro y_99 hy_99
      obtain ⟨x2_98, hx2_98⟩ : ∃ z : Int, z = (r_2 - 1) := ⟨_, rfl⟩
      have hv := hv x2_98 hx2_98
      have ey_99 : y_99 = iz x2_98 := by rw [hy_99, hx2_98]; try exact (by first | with_reducible rfl | simp only [zl, iz_add, iz_sub, iz_mul, iz_neg])
      subst ey_99
      refine lift_X0_begin (by first | with_reducible rfl | simp only [zl, iz_add, iz_sub, iz_mul, iz_neg]) (by first | with_reducible rfl | simp only [zl, iz_add, iz_sub, iz_mul, iz_neg]) (by first | with_reducible rfl | simp only [zl, iz_add, iz_sub, iz_mul, iz_neg]) (by first | with_reducible rfl | simp only [zl, iz_add, iz_sub, iz_mul, iz_neg]) (by first | with_reducible rfl | simp only [zl, iz_add, iz_sub, iz_mul, iz_neg]) (by first | with_reducible rfl | simp only [zl, iz_add, iz_sub, iz_mul, iz_neg]) (by first | with_reducible rfl | simp only [zl, iz_add, iz_sub, iz_mul, iz_neg]) (by first | with_reducible rfl | simp only [zl, iz_add, iz_sub, iz_mul, iz_neg]) (by first | with_reducible rfl | simp only [zl, iz_add, iz_sub, iz_mul, iz_neg]) (by first | with_reducible rfl | simp only [zl, iz_add, iz_sub, iz_mul, iz_neg]) (by first | with_reducible rfl | simp only [zl, iz_add, iz_sub, iz_mul, iz_neg]) (by first | with_reducible rfl | simp only [zl, iz_add, iz_sub, iz_mul, iz_neg]) (by first | with_reducible rfl | simp only [zl, iz_add, iz_sub, iz_mul, iz_neg]) (by first | with_reducible rfl | simp only [zl, iz_add, iz_sub, iz_mul, iz_neg]) (by first | with_reducible rfl | simp only [zl, iz_add, iz_sub, iz_mul, iz_neg]) (by first | with_reducible rfl | simp only [zl, iz_add, iz_sub, iz_mul, iz_neg]) (by first | with_reducible rfl | simp only [zl, iz_add, iz_sub, iz_mul, iz_neg]) (by first | with_reducible rfl | simp only [zl, iz_add, iz_sub, iz_mul, iz_neg]) (by first | with_reducible rfl | simp only [zl, iz_add, iz_sub, iz_mul, iz_neg]) hv (fun u_100 y_102 hv eu_104 => ?_)
      subst eu_104
      try dsimp only
      refine lift_X0_leadBy (by first | with_reducible rfl | simp only [zl, iz_add, iz_sub, iz_mul, iz_neg]) (by first | with_reducible rfl | simp only [zl, iz_add, iz_sub, iz_mul, iz_neg]) (by first | with_reducible rfl | simp only [zl, iz_add, iz_sub, iz_mul, iz_neg]) (by first | with_reducible rfl | simp only [zl, iz_add, iz_sub, iz_mul, iz_neg]) (by first | with_reducible rfl | simp only [zl, iz_add, iz_sub, iz_mul, iz_neg]) (by first | with_reducible rfl | simp only [zl, iz_add, iz_sub, iz_mul, iz_neg]) (by first | with_reducible rfl | simp only [zl, iz_add, iz_sub, iz_mul, iz_neg]) (by first | with_reducible rfl | simp only [zl, iz_add, iz_sub, iz_mul, iz_neg]) (by first | with_reducible rfl | simp only [zl, iz_add, iz_sub, iz_mul, iz_neg]) (by first | with_reducible rfl | simp only [zl, iz_add, iz_sub, iz_mul, iz_neg]) (by first | with_reducible rfl | simp only [zl, iz_add, iz_sub, iz_mul, iz_neg]) (by first | with_reducible rfl | simp only [zl, iz_add, iz_sub, iz_mul, iz_neg]) (by first | with_reducible rfl | simp only [zl, iz_add, iz_sub, iz_mul, iz_neg]) (by first | with_reducible rfl | simp only [zl, iz_add, iz_sub, iz_mul, iz_neg]) (by first | with_reducible rfl | simp only [zl, iz_add, iz_sub, iz_mul, iz_neg]) (by first | with_reducible rfl | simp only [zl, iz_add, iz_sub, iz_mul, iz_neg]) (by first | with_reducible rfl | simp only [zl, iz_add, iz_sub, iz_mul, iz_neg]) (by first | with_reducible rfl | simp only [zl, iz_add, iz_sub, iz_mul, iz_neg]) hv (fun r_106 u_105 y_107 y_108 hv er_109 eu_110 => ?_)
      subst er_109; subst eu_110
      try dsimp only
      obtain ⟨n_129, hv⟩ := hv
      refine ⟨n_129, lift_X4_helps_L49 (by first | with_reducible rfl | simp only [zl, iz_add, iz_sub, iz_mul, iz_neg]) (by first | with_reducible rfl | simp only [zl, iz_add, iz_sub, iz_mul, iz_neg]) (by first | with_reducible rfl | simp only [zl, iz_add, iz_sub, iz_mul, iz_neg]) (by first | with_reducible rfl | simp only [zl, iz_add, iz_sub, iz_mul, iz_neg]) (by first | with_reducible rfl | simp only [zl, iz_add, iz_sub, iz_mul, iz_neg]) (by first | with_reducible rfl | simp only [zl, iz_add, iz_sub, iz_mul, iz_neg]) (by first | with_reducible rfl | simp only [zl, iz_add, iz_sub, iz_mul, iz_neg]) (by first | with_reducible rfl | simp only [zl, iz_add, iz_sub, iz_mul, iz_neg]) (by first | with_reducible rfl | simp only [zl, iz_add, iz_sub, iz_mul, iz_neg]) (by first | with_reducible rfl | simp only [zl, iz_add, iz_sub, iz_mul, iz_neg]) (by first | with_reducible rfl | simp only [zl, iz_add, iz_sub, iz_mul, iz_neg]) (by first | with_reducible rfl | simp only [zl, iz_add, iz_sub, iz_mul, iz_neg]) (by first | with_reducible rfl | simp only [zl, iz_add, iz_sub, iz_mul, iz_neg]) (by first | with_reducible rfl | simp only [zl, iz_add, iz_sub, iz_mul, iz_neg]) (fun y_130 y_131 y_132 y_133 y_134 y_135 y_136 y_137 y_138 y_139 y_140 y_141 y_142 y_143 y_144 y_145 y_146 y_147 k3_111 g_lanes_112 g_from_113 g_to_114 g_width_115 g_length_116 g_shut_117 g_safeRooms_118 g_people_119 g_led_120 g_notLed_121 g_entering_122 g_latest_123 g_step_124 g_wayEntry_125 g_wayAhead_126 g_waySteps_127 g_wayWidth_128 hv ey_148 ey_149 ey_150 ey_151 ey_152 ey_153 ey_154 ey_155 ey_156 ey_157 ey_158 ey_159 ey_160 ey_161 ey_162 ey_163 ey_164 ey_165 => ?_)  n_129 _ _ _ _ _ _ _ _ _ _ _ _ _ _ _ _ _ _ _ 0 0 g_lanes g_from g_to g_width g_length g_shut g_safeRooms g_people g_led g_notLed g_entering g_latest g_step g_wayEntry g_wayAhead g_waySteps g_wayWidth (by first | with_reducible rfl | simp only [zl, iz_add, iz_sub, iz_mul, iz_neg]) (by first | with_reducible rfl | simp only [zl, iz_add, iz_sub, iz_mul, iz_neg]) (by first | with_reducible rfl | simp only [zl, iz_add, iz_sub, iz_mul, iz_neg]) (by first | with_reducible rfl | simp only [zl, iz_add, iz_sub, iz_mul, iz_neg]) (by first | with_reducible rfl | simp only [zl, iz_add, iz_sub, iz_mul, iz_neg]) (by first | with_reducible rfl | simp only [zl, iz_add, iz_sub, iz_mul, iz_neg]) (by first | with_reducible rfl | simp only [zl, iz_add, iz_sub, iz_mul, iz_neg]) (by first | with_reducible rfl | simp only [zl, iz_add, iz_sub, iz_mul, iz_neg]) (by first | with_reducible rfl | simp only [zl, iz_add, iz_sub, iz_mul, iz_neg]) (by first | with_reducible rfl | simp only [zl, iz_add, iz_sub, iz_mul, iz_neg]) (by first | with_reducible rfl | simp only [zl, iz_add, iz_sub, iz_mul, iz_neg]) (by first | with_reducible rfl | simp only [zl, iz_add, iz_sub, iz_mul, iz_neg]) (by first | with_reducible rfl | simp only [zl, iz_add, iz_sub, iz_mul, iz_neg]) (by first | with_reducible rfl | simp only [zl, iz_add, iz_sub, iz_mul, iz_neg]) (by first | with_reducible rfl | simp only [zl, iz_add, iz_sub, iz_mul, iz_neg]) (by first | with_reducible rfl | simp only [zl, iz_add, iz_sub, iz_mul, iz_neg]) (by first | with_reducible rfl | simp only [zl, iz_add, iz_sub, iz_mul, iz_neg]) (by first | with_reducible rfl | simp only [zl, iz_add, iz_sub, iz_mul, iz_neg]) (by first | with_reducible rfl | simp only [zl, iz_add, iz_sub, iz_mul, iz_neg]) hv⟩
      subst ey_148
      subst ey_149
      subst ey_150
      subst ey_151
      subst ey_152
      subst ey_153
      subst ey_154
      subst ey_155
      subst ey_156
      subst ey_157
      subst ey_158
      subst ey_159
      subst ey_160
      subst ey_161
      subst ey_162
      subst ey_163
      subst ey_164
      subst ey_165
      exact hp _ _ _ _ hv (by first | with_reducible rfl | simp only [zl, iz_add, iz_sub, iz_mul, iz_neg]) (by first | with_reducible rfl | simp only [zl, iz_add, iz_sub, iz_mul, iz_neg])
  · have hv := hv.2 (q_8.mp c9)
    exact hp _ _ _ _ hv (by first | with_reducible rfl | simp only [zl, iz_add, iz_sub, iz_mul, iz_neg]) (by first | with_reducible rfl | simp only [zl, iz_add, iz_sub, iz_mul, iz_neg])

def iv_X4_canDoShut (a1 : Int) (a2 : Int) (a3 : Int) (q_people : (Nat → Int)) (q_safeRooms : Int) (q_passages : Int) (q_from : (Nat → Int)) (q_to : (Nat → Int)) (q_width : (Nat → Int)) (q_length : (Nat → Int)) (q_shut : (Nat → Int)) (g_lanes : Int) (g_from : (Nat → Int)) (g_to : (Nat → Int)) (g_width : (Nat → Int)) (g_length : (Nat → Int)) (g_shut : (Nat → Int)) (g_safeRooms : Int) (g_people : Int) (g_led : Int) (g_notLed : (Nat → Int)) (g_entering : (Nat → Int)) (g_latest : (Nat → Int)) (g_step : (Nat → Int)) (g_wayEntry : (Nat → Int)) (g_wayAhead : (Nat → Int)) (g_waySteps : Int) (g_wayWidth : Int) (post : Int → (Int × (Nat → Int) × (Nat → Int) × (Nat → Int) × (Nat → Int) × (Nat → Int) × Int × Int × Int × (Nat → Int) × (Nat → Int) × (Nat → Int) × (Nat → Int) × (Nat → Int) × (Nat → Int) × Int × Int) → Prop) : Prop :=
  (iv_X0_begin g_lanes g_from g_to g_width g_length g_shut g_safeRooms g_people g_led g_notLed g_entering q_people q_safeRooms q_passages q_from q_to q_width q_length q_shut (fun (u_1 : Int × (Nat → Int) × (Nat → Int) × (Nat → Int) × (Nat → Int) × (Nat → Int) × Int × Int × Int × (Nat → Int) × (Nat → Int)) => (iv_X0_setShut a1 a2 u_1.2.2.2.2.2.1 (fun (u_6 : (Nat → Int)) => (iv_X0_leadsAllBy a3 u_1.1 u_1.2.1 u_1.2.2.1 u_1.2.2.2.1 u_1.2.2.2.2.1 u_6 u_1.2.2.2.2.2.2.1 u_1.2.2.2.2.2.2.2.1 u_1.2.2.2.2.2.2.2.2.1 u_1.2.2.2.2.2.2.2.2.2.1 u_1.2.2.2.2.2.2.2.2.2.2 g_latest g_step g_wayEntry g_wayAhead g_waySteps g_wayWidth (fun (r_12 : Int) (u_11 : Int × (Nat → Int) × (Nat → Int) × (Nat → Int) × (Nat → Int) × (Nat → Int) × (Nat → Int) × Int × Int) => ((r_12 = 0 ∨ r_12 = 1) ∧ post r_12 (u_1.1, u_1.2.1, u_1.2.2.1, u_1.2.2.2.1, u_1.2.2.2.2.1, u_6, u_1.2.2.2.2.2.2.1, u_1.2.2.2.2.2.2.2.1, u_11.1, u_11.2.1, u_11.2.2.1, u_11.2.2.2.1, u_11.2.2.2.2.1, u_11.2.2.2.2.2.1, u_11.2.2.2.2.2.2.1, u_11.2.2.2.2.2.2.2.1, u_11.2.2.2.2.2.2.2.2))))))))

set_option maxHeartbeats 4000000 in
theorem lift_X4_canDoShut {a1' : Int32} {a1 : Int} {a2' : Int32} {a2 : Int} {a3' : Int32} {a3 : Int} {q_people' : (Nat → Int32)} {q_people : (Nat → Int)} {q_safeRooms' : Int32} {q_safeRooms : Int} {q_passages' : Int32} {q_passages : Int} {q_from' : (Nat → Int32)} {q_from : (Nat → Int)} {q_to' : (Nat → Int32)} {q_to : (Nat → Int)} {q_width' : (Nat → Int32)} {q_width : (Nat → Int)} {q_length' : (Nat → Int32)} {q_length : (Nat → Int)} {q_shut' : (Nat → Int32)} {q_shut : (Nat → Int)} {g_lanes' : Int32} {g_lanes : Int} {g_from' : (Nat → Int32)} {g_from : (Nat → Int)} {g_to' : (Nat → Int32)} {g_to : (Nat → Int)} {g_width' : (Nat → Int32)} {g_width : (Nat → Int)} {g_length' : (Nat → Int32)} {g_length : (Nat → Int)} {g_shut' : (Nat → Int32)} {g_shut : (Nat → Int)} {g_safeRooms' : Int32} {g_safeRooms : Int} {g_people' : Int32} {g_people : Int} {g_led' : Int32} {g_led : Int} {g_notLed' : (Nat → Int32)} {g_notLed : (Nat → Int)} {g_entering' : (Nat → Int32)} {g_entering : (Nat → Int)} {g_latest' : (Nat → Int32)} {g_latest : (Nat → Int)} {g_step' : (Nat → Int32)} {g_step : (Nat → Int)} {g_wayEntry' : (Nat → Int32)} {g_wayEntry : (Nat → Int)} {g_wayAhead' : (Nat → Int32)} {g_wayAhead : (Nat → Int)} {g_waySteps' : Int32} {g_waySteps : Int} {g_wayWidth' : Int32} {g_wayWidth : Int} (e_a1 : a1' = iz a1) (e_a2 : a2' = iz a2) (e_a3 : a3' = iz a3) (e_q_people : q_people' = az q_people) (e_q_safeRooms : q_safeRooms' = iz q_safeRooms) (e_q_passages : q_passages' = iz q_passages) (e_q_from : q_from' = az q_from) (e_q_to : q_to' = az q_to) (e_q_width : q_width' = az q_width) (e_q_length : q_length' = az q_length) (e_q_shut : q_shut' = az q_shut) (e_g_lanes : g_lanes' = iz g_lanes) (e_g_from : g_from' = az g_from) (e_g_to : g_to' = az g_to) (e_g_width : g_width' = az g_width) (e_g_length : g_length' = az g_length) (e_g_shut : g_shut' = az g_shut) (e_g_safeRooms : g_safeRooms' = iz g_safeRooms) (e_g_people : g_people' = iz g_people) (e_g_led : g_led' = iz g_led) (e_g_notLed : g_notLed' = az g_notLed) (e_g_entering : g_entering' = az g_entering) (e_g_latest : g_latest' = az g_latest) (e_g_step : g_step' = az g_step) (e_g_wayEntry : g_wayEntry' = az g_wayEntry) (e_g_wayAhead : g_wayAhead' = az g_wayAhead) (e_g_waySteps : g_waySteps' = iz g_waySteps) (e_g_wayWidth : g_wayWidth' = iz g_wayWidth) {post0 : Int32 → (Int32 × (Nat → Int32) × (Nat → Int32) × (Nat → Int32) × (Nat → Int32) × (Nat → Int32) × Int32 × Int32 × Int32 × (Nat → Int32) × (Nat → Int32) × (Nat → Int32) × (Nat → Int32) × (Nat → Int32) × (Nat → Int32) × Int32 × Int32) → Prop} {post : Int → (Int × (Nat → Int) × (Nat → Int) × (Nat → Int) × (Nat → Int) × (Nat → Int) × Int × Int × Int × (Nat → Int) × (Nat → Int) × (Nat → Int) × (Nat → Int) × (Nat → Int) × (Nat → Int) × Int × Int) → Prop} (hv : iv_X4_canDoShut a1 a2 a3 q_people q_safeRooms q_passages q_from q_to q_width q_length q_shut g_lanes g_from g_to g_width g_length g_shut g_safeRooms g_people g_led g_notLed g_entering g_latest g_step g_wayEntry g_wayAhead g_waySteps g_wayWidth post) (hp : ∀ (r : Int) (u : Int × (Nat → Int) × (Nat → Int) × (Nat → Int) × (Nat → Int) × (Nat → Int) × Int × Int × Int × (Nat → Int) × (Nat → Int) × (Nat → Int) × (Nat → Int) × (Nat → Int) × (Nat → Int) × Int × Int) (x : Int32) (y : Int32 × (Nat → Int32) × (Nat → Int32) × (Nat → Int32) × (Nat → Int32) × (Nat → Int32) × Int32 × Int32 × Int32 × (Nat → Int32) × (Nat → Int32) × (Nat → Int32) × (Nat → Int32) × (Nat → Int32) × (Nat → Int32) × Int32 × Int32), post r u → x = iz r → y = (iz u.1, az u.2.1, az u.2.2.1, az u.2.2.2.1, az u.2.2.2.2.1, az u.2.2.2.2.2.1, iz u.2.2.2.2.2.2.1, iz u.2.2.2.2.2.2.2.1, iz u.2.2.2.2.2.2.2.2.1, az u.2.2.2.2.2.2.2.2.2.1, az u.2.2.2.2.2.2.2.2.2.2.1, az u.2.2.2.2.2.2.2.2.2.2.2.1, az u.2.2.2.2.2.2.2.2.2.2.2.2.1, az u.2.2.2.2.2.2.2.2.2.2.2.2.2.1, az u.2.2.2.2.2.2.2.2.2.2.2.2.2.2.1, iz u.2.2.2.2.2.2.2.2.2.2.2.2.2.2.2.1, iz u.2.2.2.2.2.2.2.2.2.2.2.2.2.2.2.2) → post0 x y) : vc_X4_canDoShut a1' a2' a3' q_people' q_safeRooms' q_passages' q_from' q_to' q_width' q_length' q_shut' g_lanes' g_from' g_to' g_width' g_length' g_shut' g_safeRooms' g_people' g_led' g_notLed' g_entering' g_latest' g_step' g_wayEntry' g_wayAhead' g_waySteps' g_wayWidth' post0 := by
  subst e_a1
  subst e_a2
  subst e_a3
  subst e_q_people
  subst e_q_safeRooms
  subst e_q_passages
  subst e_q_from
  subst e_q_to
  subst e_q_width
  subst e_q_length
  subst e_q_shut
  subst e_g_lanes
  subst e_g_from
  subst e_g_to
  subst e_g_width
  subst e_g_length
  subst e_g_shut
  subst e_g_safeRooms
  subst e_g_people
  subst e_g_led
  subst e_g_notLed
  subst e_g_entering
  subst e_g_latest
  subst e_g_step
  subst e_g_wayEntry
  subst e_g_wayAhead
  subst e_g_waySteps
  subst e_g_wayWidth
  rw [iv_X4_canDoShut] at hv
  rw [vc_X4_canDoShut]
  refine lift_X0_begin (by first | with_reducible rfl | simp only [zl, iz_add, iz_sub, iz_mul, iz_neg]) (by first | with_reducible rfl | simp only [zl, iz_add, iz_sub, iz_mul, iz_neg]) (by first | with_reducible rfl | simp only [zl, iz_add, iz_sub, iz_mul, iz_neg]) (by first | with_reducible rfl | simp only [zl, iz_add, iz_sub, iz_mul, iz_neg]) (by first | with_reducible rfl | simp only [zl, iz_add, iz_sub, iz_mul, iz_neg]) (by first | with_reducible rfl | simp only [zl, iz_add, iz_sub, iz_mul, iz_neg]) (by first | with_reducible rfl | simp only [zl, iz_add, iz_sub, iz_mul, iz_neg]) (by first | with_reducible rfl | simp only [zl, iz_add, iz_sub, iz_mul, iz_neg]) (by first | with_reducible rfl | simp only [zl, iz_add, iz_sub, iz_mul, iz_neg]) (by first | with_reducible rfl | simp only [zl, iz_add, iz_sub, iz_mul, iz_neg]) (by first | with_reducible rfl | simp only [zl, iz_add, iz_sub, iz_mul, iz_neg]) (by first | with_reducible rfl | simp only [zl, iz_add, iz_sub, iz_mul, iz_neg]) (by first | with_reducible rfl | simp only [zl, iz_add, iz_sub, iz_mul, iz_neg]) (by first | with_reducible rfl | simp only [zl, iz_add, iz_sub, iz_mul, iz_neg]) (by first | with_reducible rfl | simp only [zl, iz_add, iz_sub, iz_mul, iz_neg]) (by first | with_reducible rfl | simp only [zl, iz_add, iz_sub, iz_mul, iz_neg]) (by first | with_reducible rfl | simp only [zl, iz_add, iz_sub, iz_mul, iz_neg]) (by first | with_reducible rfl | simp only [zl, iz_add, iz_sub, iz_mul, iz_neg]) (by first | with_reducible rfl | simp only [zl, iz_add, iz_sub, iz_mul, iz_neg]) hv (fun u_1 y_3 hv eu_5 => ?_)
  subst eu_5
  try dsimp only
  refine lift_X0_setShut (by first | with_reducible rfl | simp only [zl, iz_add, iz_sub, iz_mul, iz_neg]) (by first | with_reducible rfl | simp only [zl, iz_add, iz_sub, iz_mul, iz_neg]) (by first | with_reducible rfl | simp only [zl, iz_add, iz_sub, iz_mul, iz_neg]) hv (fun u_6 y_8 hv eu_10 => ?_)
  subst eu_10
  try dsimp only
  refine lift_X0_leadsAllBy (by first | with_reducible rfl | simp only [zl, iz_add, iz_sub, iz_mul, iz_neg]) (by first | with_reducible rfl | simp only [zl, iz_add, iz_sub, iz_mul, iz_neg]) (by first | with_reducible rfl | simp only [zl, iz_add, iz_sub, iz_mul, iz_neg]) (by first | with_reducible rfl | simp only [zl, iz_add, iz_sub, iz_mul, iz_neg]) (by first | with_reducible rfl | simp only [zl, iz_add, iz_sub, iz_mul, iz_neg]) (by first | with_reducible rfl | simp only [zl, iz_add, iz_sub, iz_mul, iz_neg]) (by first | with_reducible rfl | simp only [zl, iz_add, iz_sub, iz_mul, iz_neg]) (by first | with_reducible rfl | simp only [zl, iz_add, iz_sub, iz_mul, iz_neg]) (by first | with_reducible rfl | simp only [zl, iz_add, iz_sub, iz_mul, iz_neg]) (by first | with_reducible rfl | simp only [zl, iz_add, iz_sub, iz_mul, iz_neg]) (by first | with_reducible rfl | simp only [zl, iz_add, iz_sub, iz_mul, iz_neg]) (by first | with_reducible rfl | simp only [zl, iz_add, iz_sub, iz_mul, iz_neg]) (by first | with_reducible rfl | simp only [zl, iz_add, iz_sub, iz_mul, iz_neg]) (by first | with_reducible rfl | simp only [zl, iz_add, iz_sub, iz_mul, iz_neg]) (by first | with_reducible rfl | simp only [zl, iz_add, iz_sub, iz_mul, iz_neg]) (by first | with_reducible rfl | simp only [zl, iz_add, iz_sub, iz_mul, iz_neg]) (by first | with_reducible rfl | simp only [zl, iz_add, iz_sub, iz_mul, iz_neg]) (by first | with_reducible rfl | simp only [zl, iz_add, iz_sub, iz_mul, iz_neg]) hv (fun r_12 u_11 y_13 y_14 hv er_15 eu_16 => ?_)
  subst er_15; subst eu_16
  try dsimp only
  refine ⟨z_nar (by first | with_reducible rfl | simp only [zl, iz_add, iz_sub, iz_mul, iz_neg]) hv.1, hp _ _ _ _ hv.2 (by first | with_reducible rfl | simp only [zl, iz_add, iz_sub, iz_mul, iz_neg]) (by first | with_reducible rfl | simp only [zl, iz_add, iz_sub, iz_mul, iz_neg])⟩

def iv_X4_needed_L18 (K : Int → Int → (Nat → Int) → (Nat → Int) → (Nat → Int) → (Nat → Int) → (Nat → Int) → Int → Int → Int → (Nat → Int) → (Nat → Int) → (Nat → Int) → (Nat → Int) → (Nat → Int) → (Nat → Int) → Int → Int → Prop) (b1 : Int) (q_people : (Nat → Int)) (q_safeRooms : Int) (q_passages : Int) (q_from : (Nat → Int)) (q_to : (Nat → Int)) (q_width : (Nat → Int)) (q_length : (Nat → Int)) (q_shut : (Nat → Int)) (f_entering : (Nat → Int)) : Nat → Int → Int → Int → (Nat → Int) → (Nat → Int) → (Nat → Int) → (Nat → Int) → (Nat → Int) → Int → Int → Int → (Nat → Int) → (Nat → Int) → (Nat → Int) → (Nat → Int) → (Nat → Int) → (Nat → Int) → Int → Int → Prop
  | 0, _, _, _, _, _, _, _, _, _, _, _, _, _, _, _, _, _, _, _ => False
  | n + 1, v2, v3, g_lanes, g_from, g_to, g_width, g_length, g_shut, g_safeRooms, g_people, g_led, g_notLed, g_entering, g_latest, g_step, g_wayEntry, g_wayAhead, g_waySteps, g_wayWidth =>
    ((sm q_passages ∧ sm v3) ∧ ((q_passages ≤ v3 → K v2 g_lanes g_from g_to g_width g_length g_shut g_safeRooms g_people g_led g_notLed g_entering g_latest g_step g_wayEntry g_wayAhead g_waySteps g_wayWidth) ∧ (¬ q_passages ≤ v3 → (iv_X0_lastUse v3 f_entering (fun (r_12 : Int) (u_11 : Unit) => ((sm r_12 ∧ sm 0) ∧ ((r_12 < 0 → (∀ x3_19 : Int, x3_19 = v3 + 1 → iv_X4_needed_L18 K b1 q_people q_safeRooms q_passages q_from q_to q_width q_length q_shut f_entering n v2 x3_19 g_lanes g_from g_to g_width g_length g_shut g_safeRooms g_people g_led g_notLed g_entering g_latest g_step g_wayEntry g_wayAhead g_waySteps g_wayWidth)) ∧ (¬ r_12 < 0 → (iv_X4_canDoShut v3 0 b1 q_people q_safeRooms q_passages q_from q_to q_width q_length q_shut g_lanes g_from g_to g_width g_length g_shut g_safeRooms g_people g_led g_notLed g_entering g_latest g_step g_wayEntry g_wayAhead g_waySteps g_wayWidth (fun (r_22 : Int) (u_21 : Int × (Nat → Int) × (Nat → Int) × (Nat → Int) × (Nat → Int) × (Nat → Int) × Int × Int × Int × (Nat → Int) × (Nat → Int) × (Nat → Int) × (Nat → Int) × (Nat → Int) × (Nat → Int) × Int × Int) => ((sm r_22 ∧ sm 0) ∧ ((¬ r_22 = 0 → (∀ x3_29 : Int, x3_29 = v3 + 1 → iv_X4_needed_L18 K b1 q_people q_safeRooms q_passages q_from q_to q_width q_length q_shut f_entering n v2 x3_29 u_21.1 u_21.2.1 u_21.2.2.1 u_21.2.2.2.1 u_21.2.2.2.2.1 u_21.2.2.2.2.2.1 u_21.2.2.2.2.2.2.1 u_21.2.2.2.2.2.2.2.1 u_21.2.2.2.2.2.2.2.2.1 u_21.2.2.2.2.2.2.2.2.2.1 u_21.2.2.2.2.2.2.2.2.2.2.1 u_21.2.2.2.2.2.2.2.2.2.2.2.1 u_21.2.2.2.2.2.2.2.2.2.2.2.2.1 u_21.2.2.2.2.2.2.2.2.2.2.2.2.2.1 u_21.2.2.2.2.2.2.2.2.2.2.2.2.2.2.1 u_21.2.2.2.2.2.2.2.2.2.2.2.2.2.2.2.1 u_21.2.2.2.2.2.2.2.2.2.2.2.2.2.2.2.2)) ∧ (r_22 = 0 → ((0 ≤ v3 ∧ v3 < 30) ∧ ((zn v2 ∧ zn (2 ^ (v3).toNat)) ∧ (∀ x2_35 : Int, x2_35 = (zor v2 (2 ^ (v3).toNat)) → (∀ x3_37 : Int, x3_37 = v3 + 1 → iv_X4_needed_L18 K b1 q_people q_safeRooms q_passages q_from q_to q_width q_length q_shut f_entering n x2_35 x3_37 u_21.1 u_21.2.1 u_21.2.2.1 u_21.2.2.2.1 u_21.2.2.2.2.1 u_21.2.2.2.2.2.1 u_21.2.2.2.2.2.2.1 u_21.2.2.2.2.2.2.2.1 u_21.2.2.2.2.2.2.2.2.1 u_21.2.2.2.2.2.2.2.2.2.1 u_21.2.2.2.2.2.2.2.2.2.2.1 u_21.2.2.2.2.2.2.2.2.2.2.2.1 u_21.2.2.2.2.2.2.2.2.2.2.2.2.1 u_21.2.2.2.2.2.2.2.2.2.2.2.2.2.1 u_21.2.2.2.2.2.2.2.2.2.2.2.2.2.2.1 u_21.2.2.2.2.2.2.2.2.2.2.2.2.2.2.2.1 u_21.2.2.2.2.2.2.2.2.2.2.2.2.2.2.2.2)))))))))))))))))

set_option maxHeartbeats 4000000 in
theorem lift_X4_needed_L18 {K0 : Int32 → Int32 → (Nat → Int32) → (Nat → Int32) → (Nat → Int32) → (Nat → Int32) → (Nat → Int32) → Int32 → Int32 → Int32 → (Nat → Int32) → (Nat → Int32) → (Nat → Int32) → (Nat → Int32) → (Nat → Int32) → (Nat → Int32) → Int32 → Int32 → Prop} {K : Int → Int → (Nat → Int) → (Nat → Int) → (Nat → Int) → (Nat → Int) → (Nat → Int) → Int → Int → Int → (Nat → Int) → (Nat → Int) → (Nat → Int) → (Nat → Int) → (Nat → Int) → (Nat → Int) → Int → Int → Prop} {b1' : Int32} {b1 : Int} {q_people' : (Nat → Int32)} {q_people : (Nat → Int)} {q_safeRooms' : Int32} {q_safeRooms : Int} {q_passages' : Int32} {q_passages : Int} {q_from' : (Nat → Int32)} {q_from : (Nat → Int)} {q_to' : (Nat → Int32)} {q_to : (Nat → Int)} {q_width' : (Nat → Int32)} {q_width : (Nat → Int)} {q_length' : (Nat → Int32)} {q_length : (Nat → Int)} {q_shut' : (Nat → Int32)} {q_shut : (Nat → Int)} {f_entering' : (Nat → Int32)} {f_entering : (Nat → Int)} (e_b1 : b1' = iz b1) (e_q_people : q_people' = az q_people) (e_q_safeRooms : q_safeRooms' = iz q_safeRooms) (e_q_passages : q_passages' = iz q_passages) (e_q_from : q_from' = az q_from) (e_q_to : q_to' = az q_to) (e_q_width : q_width' = az q_width) (e_q_length : q_length' = az q_length) (e_q_shut : q_shut' = az q_shut) (e_f_entering : f_entering' = az f_entering)  (hKx : ∀ (k2' : Int32) (k_g_lanes' : Int32) (k_g_from' : (Nat → Int32)) (k_g_to' : (Nat → Int32)) (k_g_width' : (Nat → Int32)) (k_g_length' : (Nat → Int32)) (k_g_shut' : (Nat → Int32)) (k_g_safeRooms' : Int32) (k_g_people' : Int32) (k_g_led' : Int32) (k_g_notLed' : (Nat → Int32)) (k_g_entering' : (Nat → Int32)) (k_g_latest' : (Nat → Int32)) (k_g_step' : (Nat → Int32)) (k_g_wayEntry' : (Nat → Int32)) (k_g_wayAhead' : (Nat → Int32)) (k_g_waySteps' : Int32) (k_g_wayWidth' : Int32) (k2 : Int) (k_g_lanes : Int) (k_g_from : (Nat → Int)) (k_g_to : (Nat → Int)) (k_g_width : (Nat → Int)) (k_g_length : (Nat → Int)) (k_g_shut : (Nat → Int)) (k_g_safeRooms : Int) (k_g_people : Int) (k_g_led : Int) (k_g_notLed : (Nat → Int)) (k_g_entering : (Nat → Int)) (k_g_latest : (Nat → Int)) (k_g_step : (Nat → Int)) (k_g_wayEntry : (Nat → Int)) (k_g_wayAhead : (Nat → Int)) (k_g_waySteps : Int) (k_g_wayWidth : Int), K k2 k_g_lanes k_g_from k_g_to k_g_width k_g_length k_g_shut k_g_safeRooms k_g_people k_g_led k_g_notLed k_g_entering k_g_latest k_g_step k_g_wayEntry k_g_wayAhead k_g_waySteps k_g_wayWidth → k2' = iz k2 → k_g_lanes' = iz k_g_lanes → k_g_from' = az k_g_from → k_g_to' = az k_g_to → k_g_width' = az k_g_width → k_g_length' = az k_g_length → k_g_shut' = az k_g_shut → k_g_safeRooms' = iz k_g_safeRooms → k_g_people' = iz k_g_people → k_g_led' = iz k_g_led → k_g_notLed' = az k_g_notLed → k_g_entering' = az k_g_entering → k_g_latest' = az k_g_latest → k_g_step' = az k_g_step → k_g_wayEntry' = az k_g_wayEntry → k_g_wayAhead' = az k_g_wayAhead → k_g_waySteps' = iz k_g_waySteps → k_g_wayWidth' = iz k_g_wayWidth →  K0 k2' k_g_lanes' k_g_from' k_g_to' k_g_width' k_g_length' k_g_shut' k_g_safeRooms' k_g_people' k_g_led' k_g_notLed' k_g_entering' k_g_latest' k_g_step' k_g_wayEntry' k_g_wayAhead' k_g_waySteps' k_g_wayWidth') :
    ∀ (n : Nat) (v2' : Int32) (v3' : Int32) (g_lanes' : Int32) (g_from' : (Nat → Int32)) (g_to' : (Nat → Int32)) (g_width' : (Nat → Int32)) (g_length' : (Nat → Int32)) (g_shut' : (Nat → Int32)) (g_safeRooms' : Int32) (g_people' : Int32) (g_led' : Int32) (g_notLed' : (Nat → Int32)) (g_entering' : (Nat → Int32)) (g_latest' : (Nat → Int32)) (g_step' : (Nat → Int32)) (g_wayEntry' : (Nat → Int32)) (g_wayAhead' : (Nat → Int32)) (g_waySteps' : Int32) (g_wayWidth' : Int32) (v2 : Int) (v3 : Int) (g_lanes : Int) (g_from : (Nat → Int)) (g_to : (Nat → Int)) (g_width : (Nat → Int)) (g_length : (Nat → Int)) (g_shut : (Nat → Int)) (g_safeRooms : Int) (g_people : Int) (g_led : Int) (g_notLed : (Nat → Int)) (g_entering : (Nat → Int)) (g_latest : (Nat → Int)) (g_step : (Nat → Int)) (g_wayEntry : (Nat → Int)) (g_wayAhead : (Nat → Int)) (g_waySteps : Int) (g_wayWidth : Int) (e_v2 : v2' = iz v2) (e_v3 : v3' = iz v3) (e_g_lanes : g_lanes' = iz g_lanes) (e_g_from : g_from' = az g_from) (e_g_to : g_to' = az g_to) (e_g_width : g_width' = az g_width) (e_g_length : g_length' = az g_length) (e_g_shut : g_shut' = az g_shut) (e_g_safeRooms : g_safeRooms' = iz g_safeRooms) (e_g_people : g_people' = iz g_people) (e_g_led : g_led' = iz g_led) (e_g_notLed : g_notLed' = az g_notLed) (e_g_entering : g_entering' = az g_entering) (e_g_latest : g_latest' = az g_latest) (e_g_step : g_step' = az g_step) (e_g_wayEntry : g_wayEntry' = az g_wayEntry) (e_g_wayAhead : g_wayAhead' = az g_wayAhead) (e_g_waySteps : g_waySteps' = iz g_waySteps) (e_g_wayWidth : g_wayWidth' = iz g_wayWidth), iv_X4_needed_L18 K b1 q_people q_safeRooms q_passages q_from q_to q_width q_length q_shut f_entering n v2 v3 g_lanes g_from g_to g_width g_length g_shut g_safeRooms g_people g_led g_notLed g_entering g_latest g_step g_wayEntry g_wayAhead g_waySteps g_wayWidth → vc_X4_needed_L18 K0 b1' q_people' q_safeRooms' q_passages' q_from' q_to' q_width' q_length' q_shut' f_entering' n v2' v3' g_lanes' g_from' g_to' g_width' g_length' g_shut' g_safeRooms' g_people' g_led' g_notLed' g_entering' g_latest' g_step' g_wayEntry' g_wayAhead' g_waySteps' g_wayWidth' := by
  subst e_b1
  subst e_q_people
  subst e_q_safeRooms
  subst e_q_passages
  subst e_q_from
  subst e_q_to
  subst e_q_width
  subst e_q_length
  subst e_q_shut
  subst e_f_entering
  intro n
  induction n with
  | zero =>
    intro v2' v3' g_lanes' g_from' g_to' g_width' g_length' g_shut' g_safeRooms' g_people' g_led' g_notLed' g_entering' g_latest' g_step' g_wayEntry' g_wayAhead' g_waySteps' g_wayWidth' v2 v3 g_lanes g_from g_to g_width g_length g_shut g_safeRooms g_people g_led g_notLed g_entering g_latest g_step g_wayEntry g_wayAhead g_waySteps g_wayWidth e_v2 e_v3 e_g_lanes e_g_from e_g_to e_g_width e_g_length e_g_shut e_g_safeRooms e_g_people e_g_led e_g_notLed e_g_entering e_g_latest e_g_step e_g_wayEntry e_g_wayAhead e_g_waySteps e_g_wayWidth hv
    exact False.elim hv
  | succ n ih =>
    intro v2' v3' g_lanes' g_from' g_to' g_width' g_length' g_shut' g_safeRooms' g_people' g_led' g_notLed' g_entering' g_latest' g_step' g_wayEntry' g_wayAhead' g_waySteps' g_wayWidth' v2 v3 g_lanes g_from g_to g_width g_length g_shut g_safeRooms g_people g_led g_notLed g_entering g_latest g_step g_wayEntry g_wayAhead g_waySteps g_wayWidth e_v2 e_v3 e_g_lanes e_g_from e_g_to e_g_width e_g_length e_g_shut e_g_safeRooms e_g_people e_g_led e_g_notLed e_g_entering e_g_latest e_g_step e_g_wayEntry e_g_wayAhead e_g_waySteps e_g_wayWidth hv
    subst e_v2
    subst e_v3
    subst e_g_lanes
    subst e_g_from
    subst e_g_to
    subst e_g_width
    subst e_g_length
    subst e_g_shut
    subst e_g_safeRooms
    subst e_g_people
    subst e_g_led
    subst e_g_notLed
    subst e_g_entering
    subst e_g_latest
    subst e_g_step
    subst e_g_wayEntry
    subst e_g_wayAhead
    subst e_g_waySteps
    subst e_g_wayWidth
    rw [iv_X4_needed_L18] at hv
    rw [vc_X4_needed_L18]
    obtain ⟨hs_9, hv⟩ := hv
    have q_10 := z_le (x := (iz q_passages)) (a := q_passages) (by first | with_reducible rfl | simp only [zl, iz_add, iz_sub, iz_mul, iz_neg]) (y := (iz v3)) (b := v3) (by first | with_reducible rfl | simp only [zl, iz_add, iz_sub, iz_mul, iz_neg]) hs_9.1 hs_9.2
    refine ⟨fun c9 => ?_, fun c9 => ?_⟩
    · have hv := hv.1 (q_10.mp c9)
      exact hKx _ _ _ _ _ _ _ _ _ _ _ _ _ _ _ _ _ _ v2 g_lanes g_from g_to g_width g_length g_shut g_safeRooms g_people g_led g_notLed g_entering g_latest g_step g_wayEntry g_wayAhead g_waySteps g_wayWidth hv (by first | with_reducible rfl | simp only [zl, iz_add, iz_sub, iz_mul, iz_neg]) (by first | with_reducible rfl | simp only [zl, iz_add, iz_sub, iz_mul, iz_neg]) (by first | with_reducible rfl | simp only [zl, iz_add, iz_sub, iz_mul, iz_neg]) (by first | with_reducible rfl | simp only [zl, iz_add, iz_sub, iz_mul, iz_neg]) (by first | with_reducible rfl | simp only [zl, iz_add, iz_sub, iz_mul, iz_neg]) (by first | with_reducible rfl | simp only [zl, iz_add, iz_sub, iz_mul, iz_neg]) (by first | with_reducible rfl | simp only [zl, iz_add, iz_sub, iz_mul, iz_neg]) (by first | with_reducible rfl | simp only [zl, iz_add, iz_sub, iz_mul, iz_neg]) (by first | with_reducible rfl | simp only [zl, iz_add, iz_sub, iz_mul, iz_neg]) (by first | with_reducible rfl | simp only [zl, iz_add, iz_sub, iz_mul, iz_neg]) (by first | with_reducible rfl | simp only [zl, iz_add, iz_sub, iz_mul, iz_neg]) (by first | with_reducible rfl | simp only [zl, iz_add, iz_sub, iz_mul, iz_neg]) (by first | with_reducible rfl | simp only [zl, iz_add, iz_sub, iz_mul, iz_neg]) (by first | with_reducible rfl | simp only [zl, iz_add, iz_sub, iz_mul, iz_neg]) (by first | with_reducible rfl | simp only [zl, iz_add, iz_sub, iz_mul, iz_neg]) (by first | with_reducible rfl | simp only [zl, iz_add, iz_sub, iz_mul, iz_neg]) (by first | with_reducible rfl | simp only [zl, iz_add, iz_sub, iz_mul, iz_neg]) (by first | with_reducible rfl | simp only [zl, iz_add, iz_sub, iz_mul, iz_neg])
    · have hv := hv.2 (fun z9 => c9 (q_10.mpr z9))
      refine lift_X0_lastUse (by first | with_reducible rfl | simp only [zl, iz_add, iz_sub, iz_mul, iz_neg]) (by first | with_reducible rfl | simp only [zl, iz_add, iz_sub, iz_mul, iz_neg]) hv (fun r_12 u_11 y_13 y_14 hv er_15 eu_16 => ?_)
      subst er_15; subst eu_16
      try dsimp only
      obtain ⟨hs_17, hv⟩ := hv
      have q_18 := z_lt (x := (iz r_12)) (a := r_12) (by first | with_reducible rfl | simp only [zl, iz_add, iz_sub, iz_mul, iz_neg]) (y := 0) (b := 0) (by first | with_reducible rfl | simp only [zl, iz_add, iz_sub, iz_mul, iz_neg]) hs_17.1 hs_17.2
      refine ⟨fun c9 => ?_, fun c9 => ?_⟩
      · have hv := hv.1 (q_18.mp c9)
        intro y_20 hy_20
        obtain ⟨x3_19, hx3_19⟩ : ∃ z : Int, z = v3 + 1 := ⟨_, rfl⟩
        have hv := hv x3_19 hx3_19
        have ey_20 : y_20 = iz x3_19 := by rw [hy_20, hx3_19]; try exact (by first | with_reducible rfl | simp only [zl, iz_add, iz_sub, iz_mul, iz_neg])
        subst ey_20
        exact ih _ _ _ _ _ _ _ _ _ _ _ _ _ _ _ _ _ _ _ v2 x3_19 g_lanes g_from g_to g_width g_length g_shut g_safeRooms g_people g_led g_notLed g_entering g_latest g_step g_wayEntry g_wayAhead g_waySteps g_wayWidth (by first | with_reducible rfl | simp only [zl, iz_add, iz_sub, iz_mul, iz_neg]) (by first | with_reducible rfl | simp only [zl, iz_add, iz_sub, iz_mul, iz_neg]) (by first | with_reducible rfl | simp only [zl, iz_add, iz_sub, iz_mul, iz_neg]) (by first | with_reducible rfl | simp only [zl, iz_add, iz_sub, iz_mul, iz_neg]) (by first | with_reducible rfl | simp only [zl, iz_add, iz_sub, iz_mul, iz_neg]) (by first | with_reducible rfl | simp only [zl, iz_add, iz_sub, iz_mul, iz_neg]) (by first | with_reducible rfl | simp only [zl, iz_add, iz_sub, iz_mul, iz_neg]) (by first | with_reducible rfl | simp only [zl, iz_add, iz_sub, iz_mul, iz_neg]) (by first | with_reducible rfl | simp only [zl, iz_add, iz_sub, iz_mul, iz_neg]) (by first | with_reducible rfl | simp only [zl, iz_add, iz_sub, iz_mul, iz_neg]) (by first | with_reducible rfl | simp only [zl, iz_add, iz_sub, iz_mul, iz_neg]) (by first | with_reducible rfl | simp only [zl, iz_add, iz_sub, iz_mul, iz_neg]) (by first | with_reducible rfl | simp only [zl, iz_add, iz_sub, iz_mul, iz_neg]) (by first | with_reducible rfl | simp only [zl, iz_add, iz_sub, iz_mul, iz_neg]) (by first | with_reducible rfl | simp only [zl, iz_add, iz_sub, iz_mul, iz_neg]) (by first | with_reducible rfl | simp only [zl, iz_add, iz_sub, iz_mul, iz_neg]) (by first | with_reducible rfl | simp only [zl, iz_add, iz_sub, iz_mul, iz_neg]) (by first | with_reducible rfl | simp only [zl, iz_add, iz_sub, iz_mul, iz_neg]) (by first | with_reducible rfl | simp only [zl, iz_add, iz_sub, iz_mul, iz_neg]) hv
      · have hv := hv.2 (fun z9 => c9 (q_18.mpr z9))
        refine lift_X4_canDoShut (by first | with_reducible rfl | simp only [zl, iz_add, iz_sub, iz_mul, iz_neg]) (by first | with_reducible rfl | simp only [zl, iz_add, iz_sub, iz_mul, iz_neg]) (by first | with_reducible rfl | simp only [zl, iz_add, iz_sub, iz_mul, iz_neg]) (by first | with_reducible rfl | simp only [zl, iz_add, iz_sub, iz_mul, iz_neg]) (by first | with_reducible rfl | simp only [zl, iz_add, iz_sub, iz_mul, iz_neg]) (by first | with_reducible rfl | simp only [zl, iz_add, iz_sub, iz_mul, iz_neg]) (by first | with_reducible rfl | simp only [zl, iz_add, iz_sub, iz_mul, iz_neg]) (by first | with_reducible rfl | simp only [zl, iz_add, iz_sub, iz_mul, iz_neg]) (by first | with_reducible rfl | simp only [zl, iz_add, iz_sub, iz_mul, iz_neg]) (by first | with_reducible rfl | simp only [zl, iz_add, iz_sub, iz_mul, iz_neg]) (by first | with_reducible rfl | simp only [zl, iz_add, iz_sub, iz_mul, iz_neg]) (by first | with_reducible rfl | simp only [zl, iz_add, iz_sub, iz_mul, iz_neg]) (by first | with_reducible rfl | simp only [zl, iz_add, iz_sub, iz_mul, iz_neg]) (by first | with_reducible rfl | simp only [zl, iz_add, iz_sub, iz_mul, iz_neg]) (by first | with_reducible rfl | simp only [zl, iz_add, iz_sub, iz_mul, iz_neg]) (by first | with_reducible rfl | simp only [zl, iz_add, iz_sub, iz_mul, iz_neg]) (by first | with_reducible rfl | simp only [zl, iz_add, iz_sub, iz_mul, iz_neg]) (by first | with_reducible rfl | simp only [zl, iz_add, iz_sub, iz_mul, iz_neg]) (by first | with_reducible rfl | simp only [zl, iz_add, iz_sub, iz_mul, iz_neg]) (by first | with_reducible rfl | simp only [zl, iz_add, iz_sub, iz_mul, iz_neg]) (by first | with_reducible rfl | simp only [zl, iz_add, iz_sub, iz_mul, iz_neg]) (by first | with_reducible rfl | simp only [zl, iz_add, iz_sub, iz_mul, iz_neg]) (by first | with_reducible rfl | simp only [zl, iz_add, iz_sub, iz_mul, iz_neg]) (by first | with_reducible rfl | simp only [zl, iz_add, iz_sub, iz_mul, iz_neg]) (by first | with_reducible rfl | simp only [zl, iz_add, iz_sub, iz_mul, iz_neg]) (by first | with_reducible rfl | simp only [zl, iz_add, iz_sub, iz_mul, iz_neg]) (by first | with_reducible rfl | simp only [zl, iz_add, iz_sub, iz_mul, iz_neg]) (by first | with_reducible rfl | simp only [zl, iz_add, iz_sub, iz_mul, iz_neg]) hv (fun r_22 u_21 y_23 y_24 hv er_25 eu_26 => ?_)
        subst er_25; subst eu_26
        try dsimp only
        obtain ⟨hs_27, hv⟩ := hv
        have q_28 := z_eq (x := (iz r_22)) (a := r_22) (by first | with_reducible rfl | simp only [zl, iz_add, iz_sub, iz_mul, iz_neg]) (y := 0) (b := 0) (by first | with_reducible rfl | simp only [zl, iz_add, iz_sub, iz_mul, iz_neg]) hs_27.1 hs_27.2
        refine ⟨fun c9 => ?_, fun c9 => ?_⟩
        · have hv := hv.1 (fun z9 => c9 (q_28.mpr z9))
          intro y_30 hy_30
          obtain ⟨x3_29, hx3_29⟩ : ∃ z : Int, z = v3 + 1 := ⟨_, rfl⟩
          have hv := hv x3_29 hx3_29
          have ey_30 : y_30 = iz x3_29 := by rw [hy_30, hx3_29]; try exact (by first | with_reducible rfl | simp only [zl, iz_add, iz_sub, iz_mul, iz_neg])
          subst ey_30
          exact ih _ _ _ _ _ _ _ _ _ _ _ _ _ _ _ _ _ _ _ v2 x3_29 u_21.1 u_21.2.1 u_21.2.2.1 u_21.2.2.2.1 u_21.2.2.2.2.1 u_21.2.2.2.2.2.1 u_21.2.2.2.2.2.2.1 u_21.2.2.2.2.2.2.2.1 u_21.2.2.2.2.2.2.2.2.1 u_21.2.2.2.2.2.2.2.2.2.1 u_21.2.2.2.2.2.2.2.2.2.2.1 u_21.2.2.2.2.2.2.2.2.2.2.2.1 u_21.2.2.2.2.2.2.2.2.2.2.2.2.1 u_21.2.2.2.2.2.2.2.2.2.2.2.2.2.1 u_21.2.2.2.2.2.2.2.2.2.2.2.2.2.2.1 u_21.2.2.2.2.2.2.2.2.2.2.2.2.2.2.2.1 u_21.2.2.2.2.2.2.2.2.2.2.2.2.2.2.2.2 (by first | with_reducible rfl | simp only [zl, iz_add, iz_sub, iz_mul, iz_neg]) (by first | with_reducible rfl | simp only [zl, iz_add, iz_sub, iz_mul, iz_neg]) (by first | with_reducible rfl | simp only [zl, iz_add, iz_sub, iz_mul, iz_neg]) (by first | with_reducible rfl | simp only [zl, iz_add, iz_sub, iz_mul, iz_neg]) (by first | with_reducible rfl | simp only [zl, iz_add, iz_sub, iz_mul, iz_neg]) (by first | with_reducible rfl | simp only [zl, iz_add, iz_sub, iz_mul, iz_neg]) (by first | with_reducible rfl | simp only [zl, iz_add, iz_sub, iz_mul, iz_neg]) (by first | with_reducible rfl | simp only [zl, iz_add, iz_sub, iz_mul, iz_neg]) (by first | with_reducible rfl | simp only [zl, iz_add, iz_sub, iz_mul, iz_neg]) (by first | with_reducible rfl | simp only [zl, iz_add, iz_sub, iz_mul, iz_neg]) (by first | with_reducible rfl | simp only [zl, iz_add, iz_sub, iz_mul, iz_neg]) (by first | with_reducible rfl | simp only [zl, iz_add, iz_sub, iz_mul, iz_neg]) (by first | with_reducible rfl | simp only [zl, iz_add, iz_sub, iz_mul, iz_neg]) (by first | with_reducible rfl | simp only [zl, iz_add, iz_sub, iz_mul, iz_neg]) (by first | with_reducible rfl | simp only [zl, iz_add, iz_sub, iz_mul, iz_neg]) (by first | with_reducible rfl | simp only [zl, iz_add, iz_sub, iz_mul, iz_neg]) (by first | with_reducible rfl | simp only [zl, iz_add, iz_sub, iz_mul, iz_neg]) (by first | with_reducible rfl | simp only [zl, iz_add, iz_sub, iz_mul, iz_neg]) (by first | with_reducible rfl | simp only [zl, iz_add, iz_sub, iz_mul, iz_neg]) hv
        · have hv := hv.2 (q_28.mp c9)
          obtain ⟨hc_31, hv⟩ := hv
          have e_32 : (1 <<< ((iz v3) &&& 31)) = iz (2 ^ (v3).toNat) := z_shl (by first | with_reducible rfl | simp only [zl, iz_add, iz_sub, iz_mul, iz_neg]) hc_31
          try rw [e_32]
          obtain ⟨hc_33, hv⟩ := hv
          have e_34 : ((iz v2) ||| (iz (2 ^ (v3).toNat))) = iz (zor v2 (2 ^ (v3).toNat)) := z_or (by first | with_reducible rfl | simp only [zl, iz_add, iz_sub, iz_mul, iz_neg]) (by first | with_reducible rfl | simp only [zl, iz_add, iz_sub, iz_mul, iz_neg]) hc_33.1 hc_33.2
          try rw [e_34]
          intro y_36 hy_36
          obtain ⟨x2_35, hx2_35⟩ : ∃ z : Int, z = (zor v2 (2 ^ (v3).toNat)) := ⟨_, rfl⟩
          have hv := hv x2_35 hx2_35
          have ey_36 : y_36 = iz x2_35 := by rw [hy_36, hx2_35]; try exact (by first | with_reducible rfl | simp only [zl, iz_add, iz_sub, iz_mul, iz_neg])
          subst ey_36
          intro y_38 hy_38
          obtain ⟨x3_37, hx3_37⟩ : ∃ z : Int, z = v3 + 1 := ⟨_, rfl⟩
          have hv := hv x3_37 hx3_37
          have ey_38 : y_38 = iz x3_37 := by rw [hy_38, hx3_37]; try exact (by first | with_reducible rfl | simp only [zl, iz_add, iz_sub, iz_mul, iz_neg])
          subst ey_38
          exact ih _ _ _ _ _ _ _ _ _ _ _ _ _ _ _ _ _ _ _ x2_35 x3_37 u_21.1 u_21.2.1 u_21.2.2.1 u_21.2.2.2.1 u_21.2.2.2.2.1 u_21.2.2.2.2.2.1 u_21.2.2.2.2.2.2.1 u_21.2.2.2.2.2.2.2.1 u_21.2.2.2.2.2.2.2.2.1 u_21.2.2.2.2.2.2.2.2.2.1 u_21.2.2.2.2.2.2.2.2.2.2.1 u_21.2.2.2.2.2.2.2.2.2.2.2.1 u_21.2.2.2.2.2.2.2.2.2.2.2.2.1 u_21.2.2.2.2.2.2.2.2.2.2.2.2.2.1 u_21.2.2.2.2.2.2.2.2.2.2.2.2.2.2.1 u_21.2.2.2.2.2.2.2.2.2.2.2.2.2.2.2.1 u_21.2.2.2.2.2.2.2.2.2.2.2.2.2.2.2.2 (by first | with_reducible rfl | simp only [zl, iz_add, iz_sub, iz_mul, iz_neg]) (by first | with_reducible rfl | simp only [zl, iz_add, iz_sub, iz_mul, iz_neg]) (by first | with_reducible rfl | simp only [zl, iz_add, iz_sub, iz_mul, iz_neg]) (by first | with_reducible rfl | simp only [zl, iz_add, iz_sub, iz_mul, iz_neg]) (by first | with_reducible rfl | simp only [zl, iz_add, iz_sub, iz_mul, iz_neg]) (by first | with_reducible rfl | simp only [zl, iz_add, iz_sub, iz_mul, iz_neg]) (by first | with_reducible rfl | simp only [zl, iz_add, iz_sub, iz_mul, iz_neg]) (by first | with_reducible rfl | simp only [zl, iz_add, iz_sub, iz_mul, iz_neg]) (by first | with_reducible rfl | simp only [zl, iz_add, iz_sub, iz_mul, iz_neg]) (by first | with_reducible rfl | simp only [zl, iz_add, iz_sub, iz_mul, iz_neg]) (by first | with_reducible rfl | simp only [zl, iz_add, iz_sub, iz_mul, iz_neg]) (by first | with_reducible rfl | simp only [zl, iz_add, iz_sub, iz_mul, iz_neg]) (by first | with_reducible rfl | simp only [zl, iz_add, iz_sub, iz_mul, iz_neg]) (by first | with_reducible rfl | simp only [zl, iz_add, iz_sub, iz_mul, iz_neg]) (by first | with_reducible rfl | simp only [zl, iz_add, iz_sub, iz_mul, iz_neg]) (by first | with_reducible rfl | simp only [zl, iz_add, iz_sub, iz_mul, iz_neg]) (by first | with_reducible rfl | simp only [zl, iz_add, iz_sub, iz_mul, iz_neg]) (by first | with_reducible rfl | simp only [zl, iz_add, iz_sub, iz_mul, iz_neg]) (by first | with_reducible rfl | simp only [zl, iz_add, iz_sub, iz_mul, iz_neg]) hv

def iv_X4_needed (q_people : (Nat → Int)) (q_safeRooms : Int) (q_passages : Int) (q_from : (Nat → Int)) (q_to : (Nat → Int)) (q_width : (Nat → Int)) (q_length : (Nat → Int)) (q_shut : (Nat → Int)) (f_lanes : Int) (f_from : (Nat → Int)) (f_to : (Nat → Int)) (f_width : (Nat → Int)) (f_length : (Nat → Int)) (f_shut : (Nat → Int)) (f_safeRooms : Int) (f_people : Int) (f_led : Int) (f_notLed : (Nat → Int)) (f_entering : (Nat → Int)) (f_latest : (Nat → Int)) (f_step : (Nat → Int)) (f_wayEntry : (Nat → Int)) (f_wayAhead : (Nat → Int)) (f_waySteps : Int) (f_wayWidth : Int) (g_lanes : Int) (g_from : (Nat → Int)) (g_to : (Nat → Int)) (g_width : (Nat → Int)) (g_length : (Nat → Int)) (g_shut : (Nat → Int)) (g_safeRooms : Int) (g_people : Int) (g_led : Int) (g_notLed : (Nat → Int)) (g_entering : (Nat → Int)) (g_latest : (Nat → Int)) (g_step : (Nat → Int)) (g_wayEntry : (Nat → Int)) (g_wayAhead : (Nat → Int)) (g_waySteps : Int) (g_wayWidth : Int) (post : Int → (Int × (Nat → Int) × (Nat → Int) × (Nat → Int) × (Nat → Int) × (Nat → Int) × Int × Int × Int × (Nat → Int) × (Nat → Int) × (Nat → Int) × (Nat → Int) × (Nat → Int) × (Nat → Int) × Int × Int × Int × (Nat → Int) × (Nat → Int) × (Nat → Int) × (Nat → Int) × (Nat → Int) × Int × Int × Int × (Nat → Int) × (Nat → Int) × (Nat → Int) × (Nat → Int) × (Nat → Int) × (Nat → Int) × Int × Int) → Prop) : Prop :=
  (iv_X4_leadAll q_people q_safeRooms q_passages q_from q_to q_width q_length q_shut f_lanes f_from f_to f_width f_length f_shut f_safeRooms f_people f_led f_notLed f_entering f_latest f_step f_wayEntry f_wayAhead f_waySteps f_wayWidth (fun (r_2 : Int) (u_1 : Int × (Nat → Int) × (Nat → Int) × (Nat → Int) × (Nat → Int) × (Nat → Int) × Int × Int × Int × (Nat → Int) × (Nat → Int) × (Nat → Int) × (Nat → Int) × (Nat → Int) × (Nat → Int) × Int × Int) => ((sm r_2 ∧ sm (-6)) ∧ ((¬ r_2 = (-6) → (∃ n_57, iv_X4_needed_L18 (fun k2_39 g_lanes_40 g_from_41 g_to_42 g_width_43 g_length_44 g_shut_45 g_safeRooms_46 g_people_47 g_led_48 g_notLed_49 g_entering_50 g_latest_51 g_step_52 g_wayEntry_53 g_wayAhead_54 g_waySteps_55 g_wayWidth_56 => post k2_39 (u_1.1, u_1.2.1, u_1.2.2.1, u_1.2.2.2.1, u_1.2.2.2.2.1, u_1.2.2.2.2.2.1, u_1.2.2.2.2.2.2.1, u_1.2.2.2.2.2.2.2.1, u_1.2.2.2.2.2.2.2.2.1, u_1.2.2.2.2.2.2.2.2.2.1, u_1.2.2.2.2.2.2.2.2.2.2.1, u_1.2.2.2.2.2.2.2.2.2.2.2.1, u_1.2.2.2.2.2.2.2.2.2.2.2.2.1, u_1.2.2.2.2.2.2.2.2.2.2.2.2.2.1, u_1.2.2.2.2.2.2.2.2.2.2.2.2.2.2.1, u_1.2.2.2.2.2.2.2.2.2.2.2.2.2.2.2.1, u_1.2.2.2.2.2.2.2.2.2.2.2.2.2.2.2.2, g_lanes_40, g_from_41, g_to_42, g_width_43, g_length_44, g_shut_45, g_safeRooms_46, g_people_47, g_led_48, g_notLed_49, g_entering_50, g_latest_51, g_step_52, g_wayEntry_53, g_wayAhead_54, g_waySteps_55, g_wayWidth_56))  r_2 q_people q_safeRooms q_passages q_from q_to q_width q_length q_shut u_1.2.2.2.2.2.2.2.2.2.2.1 n_57 0 0 g_lanes g_from g_to g_width g_length g_shut g_safeRooms g_people g_led g_notLed g_entering g_latest g_step g_wayEntry g_wayAhead g_waySteps g_wayWidth)) ∧ (r_2 = (-6) → post (-6) (u_1.1, u_1.2.1, u_1.2.2.1, u_1.2.2.2.1, u_1.2.2.2.2.1, u_1.2.2.2.2.2.1, u_1.2.2.2.2.2.2.1, u_1.2.2.2.2.2.2.2.1, u_1.2.2.2.2.2.2.2.2.1, u_1.2.2.2.2.2.2.2.2.2.1, u_1.2.2.2.2.2.2.2.2.2.2.1, u_1.2.2.2.2.2.2.2.2.2.2.2.1, u_1.2.2.2.2.2.2.2.2.2.2.2.2.1, u_1.2.2.2.2.2.2.2.2.2.2.2.2.2.1, u_1.2.2.2.2.2.2.2.2.2.2.2.2.2.2.1, u_1.2.2.2.2.2.2.2.2.2.2.2.2.2.2.2.1, u_1.2.2.2.2.2.2.2.2.2.2.2.2.2.2.2.2, g_lanes, g_from, g_to, g_width, g_length, g_shut, g_safeRooms, g_people, g_led, g_notLed, g_entering, g_latest, g_step, g_wayEntry, g_wayAhead, g_waySteps, g_wayWidth))))))

set_option maxHeartbeats 4000000 in
theorem lift_X4_needed {q_people' : (Nat → Int32)} {q_people : (Nat → Int)} {q_safeRooms' : Int32} {q_safeRooms : Int} {q_passages' : Int32} {q_passages : Int} {q_from' : (Nat → Int32)} {q_from : (Nat → Int)} {q_to' : (Nat → Int32)} {q_to : (Nat → Int)} {q_width' : (Nat → Int32)} {q_width : (Nat → Int)} {q_length' : (Nat → Int32)} {q_length : (Nat → Int)} {q_shut' : (Nat → Int32)} {q_shut : (Nat → Int)} {f_lanes' : Int32} {f_lanes : Int} {f_from' : (Nat → Int32)} {f_from : (Nat → Int)} {f_to' : (Nat → Int32)} {f_to : (Nat → Int)} {f_width' : (Nat → Int32)} {f_width : (Nat → Int)} {f_length' : (Nat → Int32)} {f_length : (Nat → Int)} {f_shut' : (Nat → Int32)} {f_shut : (Nat → Int)} {f_safeRooms' : Int32} {f_safeRooms : Int} {f_people' : Int32} {f_people : Int} {f_led' : Int32} {f_led : Int} {f_notLed' : (Nat → Int32)} {f_notLed : (Nat → Int)} {f_entering' : (Nat → Int32)} {f_entering : (Nat → Int)} {f_latest' : (Nat → Int32)} {f_latest : (Nat → Int)} {f_step' : (Nat → Int32)} {f_step : (Nat → Int)} {f_wayEntry' : (Nat → Int32)} {f_wayEntry : (Nat → Int)} {f_wayAhead' : (Nat → Int32)} {f_wayAhead : (Nat → Int)} {f_waySteps' : Int32} {f_waySteps : Int} {f_wayWidth' : Int32} {f_wayWidth : Int} {g_lanes' : Int32} {g_lanes : Int} {g_from' : (Nat → Int32)} {g_from : (Nat → Int)} {g_to' : (Nat → Int32)} {g_to : (Nat → Int)} {g_width' : (Nat → Int32)} {g_width : (Nat → Int)} {g_length' : (Nat → Int32)} {g_length : (Nat → Int)} {g_shut' : (Nat → Int32)} {g_shut : (Nat → Int)} {g_safeRooms' : Int32} {g_safeRooms : Int} {g_people' : Int32} {g_people : Int} {g_led' : Int32} {g_led : Int} {g_notLed' : (Nat → Int32)} {g_notLed : (Nat → Int)} {g_entering' : (Nat → Int32)} {g_entering : (Nat → Int)} {g_latest' : (Nat → Int32)} {g_latest : (Nat → Int)} {g_step' : (Nat → Int32)} {g_step : (Nat → Int)} {g_wayEntry' : (Nat → Int32)} {g_wayEntry : (Nat → Int)} {g_wayAhead' : (Nat → Int32)} {g_wayAhead : (Nat → Int)} {g_waySteps' : Int32} {g_waySteps : Int} {g_wayWidth' : Int32} {g_wayWidth : Int} (e_q_people : q_people' = az q_people) (e_q_safeRooms : q_safeRooms' = iz q_safeRooms) (e_q_passages : q_passages' = iz q_passages) (e_q_from : q_from' = az q_from) (e_q_to : q_to' = az q_to) (e_q_width : q_width' = az q_width) (e_q_length : q_length' = az q_length) (e_q_shut : q_shut' = az q_shut) (e_f_lanes : f_lanes' = iz f_lanes) (e_f_from : f_from' = az f_from) (e_f_to : f_to' = az f_to) (e_f_width : f_width' = az f_width) (e_f_length : f_length' = az f_length) (e_f_shut : f_shut' = az f_shut) (e_f_safeRooms : f_safeRooms' = iz f_safeRooms) (e_f_people : f_people' = iz f_people) (e_f_led : f_led' = iz f_led) (e_f_notLed : f_notLed' = az f_notLed) (e_f_entering : f_entering' = az f_entering) (e_f_latest : f_latest' = az f_latest) (e_f_step : f_step' = az f_step) (e_f_wayEntry : f_wayEntry' = az f_wayEntry) (e_f_wayAhead : f_wayAhead' = az f_wayAhead) (e_f_waySteps : f_waySteps' = iz f_waySteps) (e_f_wayWidth : f_wayWidth' = iz f_wayWidth) (e_g_lanes : g_lanes' = iz g_lanes) (e_g_from : g_from' = az g_from) (e_g_to : g_to' = az g_to) (e_g_width : g_width' = az g_width) (e_g_length : g_length' = az g_length) (e_g_shut : g_shut' = az g_shut) (e_g_safeRooms : g_safeRooms' = iz g_safeRooms) (e_g_people : g_people' = iz g_people) (e_g_led : g_led' = iz g_led) (e_g_notLed : g_notLed' = az g_notLed) (e_g_entering : g_entering' = az g_entering) (e_g_latest : g_latest' = az g_latest) (e_g_step : g_step' = az g_step) (e_g_wayEntry : g_wayEntry' = az g_wayEntry) (e_g_wayAhead : g_wayAhead' = az g_wayAhead) (e_g_waySteps : g_waySteps' = iz g_waySteps) (e_g_wayWidth : g_wayWidth' = iz g_wayWidth) {post0 : Int32 → (Int32 × (Nat → Int32) × (Nat → Int32) × (Nat → Int32) × (Nat → Int32) × (Nat → Int32) × Int32 × Int32 × Int32 × (Nat → Int32) × (Nat → Int32) × (Nat → Int32) × (Nat → Int32) × (Nat → Int32) × (Nat → Int32) × Int32 × Int32 × Int32 × (Nat → Int32) × (Nat → Int32) × (Nat → Int32) × (Nat → Int32) × (Nat → Int32) × Int32 × Int32 × Int32 × (Nat → Int32) × (Nat → Int32) × (Nat → Int32) × (Nat → Int32) × (Nat → Int32) × (Nat → Int32) × Int32 × Int32) → Prop} {post : Int → (Int × (Nat → Int) × (Nat → Int) × (Nat → Int) × (Nat → Int) × (Nat → Int) × Int × Int × Int × (Nat → Int) × (Nat → Int) × (Nat → Int) × (Nat → Int) × (Nat → Int) × (Nat → Int) × Int × Int × Int × (Nat → Int) × (Nat → Int) × (Nat → Int) × (Nat → Int) × (Nat → Int) × Int × Int × Int × (Nat → Int) × (Nat → Int) × (Nat → Int) × (Nat → Int) × (Nat → Int) × (Nat → Int) × Int × Int) → Prop} (hv : iv_X4_needed q_people q_safeRooms q_passages q_from q_to q_width q_length q_shut f_lanes f_from f_to f_width f_length f_shut f_safeRooms f_people f_led f_notLed f_entering f_latest f_step f_wayEntry f_wayAhead f_waySteps f_wayWidth g_lanes g_from g_to g_width g_length g_shut g_safeRooms g_people g_led g_notLed g_entering g_latest g_step g_wayEntry g_wayAhead g_waySteps g_wayWidth post) (hp : ∀ (r : Int) (u : Int × (Nat → Int) × (Nat → Int) × (Nat → Int) × (Nat → Int) × (Nat → Int) × Int × Int × Int × (Nat → Int) × (Nat → Int) × (Nat → Int) × (Nat → Int) × (Nat → Int) × (Nat → Int) × Int × Int × Int × (Nat → Int) × (Nat → Int) × (Nat → Int) × (Nat → Int) × (Nat → Int) × Int × Int × Int × (Nat → Int) × (Nat → Int) × (Nat → Int) × (Nat → Int) × (Nat → Int) × (Nat → Int) × Int × Int) (x : Int32) (y : Int32 × (Nat → Int32) × (Nat → Int32) × (Nat → Int32) × (Nat → Int32) × (Nat → Int32) × Int32 × Int32 × Int32 × (Nat → Int32) × (Nat → Int32) × (Nat → Int32) × (Nat → Int32) × (Nat → Int32) × (Nat → Int32) × Int32 × Int32 × Int32 × (Nat → Int32) × (Nat → Int32) × (Nat → Int32) × (Nat → Int32) × (Nat → Int32) × Int32 × Int32 × Int32 × (Nat → Int32) × (Nat → Int32) × (Nat → Int32) × (Nat → Int32) × (Nat → Int32) × (Nat → Int32) × Int32 × Int32), post r u → x = iz r → y = (iz u.1, az u.2.1, az u.2.2.1, az u.2.2.2.1, az u.2.2.2.2.1, az u.2.2.2.2.2.1, iz u.2.2.2.2.2.2.1, iz u.2.2.2.2.2.2.2.1, iz u.2.2.2.2.2.2.2.2.1, az u.2.2.2.2.2.2.2.2.2.1, az u.2.2.2.2.2.2.2.2.2.2.1, az u.2.2.2.2.2.2.2.2.2.2.2.1, az u.2.2.2.2.2.2.2.2.2.2.2.2.1, az u.2.2.2.2.2.2.2.2.2.2.2.2.2.1, az u.2.2.2.2.2.2.2.2.2.2.2.2.2.2.1, iz u.2.2.2.2.2.2.2.2.2.2.2.2.2.2.2.1, iz u.2.2.2.2.2.2.2.2.2.2.2.2.2.2.2.2.1, iz u.2.2.2.2.2.2.2.2.2.2.2.2.2.2.2.2.2.1, az u.2.2.2.2.2.2.2.2.2.2.2.2.2.2.2.2.2.2.1, az u.2.2.2.2.2.2.2.2.2.2.2.2.2.2.2.2.2.2.2.1, az u.2.2.2.2.2.2.2.2.2.2.2.2.2.2.2.2.2.2.2.2.1, az u.2.2.2.2.2.2.2.2.2.2.2.2.2.2.2.2.2.2.2.2.2.1, az u.2.2.2.2.2.2.2.2.2.2.2.2.2.2.2.2.2.2.2.2.2.2.1, iz u.2.2.2.2.2.2.2.2.2.2.2.2.2.2.2.2.2.2.2.2.2.2.2.1, iz u.2.2.2.2.2.2.2.2.2.2.2.2.2.2.2.2.2.2.2.2.2.2.2.2.1, iz u.2.2.2.2.2.2.2.2.2.2.2.2.2.2.2.2.2.2.2.2.2.2.2.2.2.1, az u.2.2.2.2.2.2.2.2.2.2.2.2.2.2.2.2.2.2.2.2.2.2.2.2.2.2.1, az u.2.2.2.2.2.2.2.2.2.2.2.2.2.2.2.2.2.2.2.2.2.2.2.2.2.2.2.1, az u.2.2.2.2.2.2.2.2.2.2.2.2.2.2.2.2.2.2.2.2.2.2.2.2.2.2.2.2.1, az u.2.2.2.2.2.2.2.2.2.2.2.2.2.2.2.2.2.2.2.2.2.2.2.2.2.2.2.2.2.1, az u.2.2.2.2.2.2.2.2.2.2.2.2.2.2.2.2.2.2.2.2.2.2.2.2.2.2.2.2.2.2.1, az u.2.2.2.2.2.2.2.2.2.2.2.2.2.2.2.2.2.2.2.2.2.2.2.2.2.2.2.2.2.2.2.1, iz u.2.2.2.2.2.2.2.2.2.2.2.2.2.2.2.2.2.2.2.2.2.2.2.2.2.2.2.2.2.2.2.2.1, iz u.2.2.2.2.2.2.2.2.2.2.2.2.2.2.2.2.2.2.2.2.2.2.2.2.2.2.2.2.2.2.2.2.2) → post0 x y) : vc_X4_needed q_people' q_safeRooms' q_passages' q_from' q_to' q_width' q_length' q_shut' f_lanes' f_from' f_to' f_width' f_length' f_shut' f_safeRooms' f_people' f_led' f_notLed' f_entering' f_latest' f_step' f_wayEntry' f_wayAhead' f_waySteps' f_wayWidth' g_lanes' g_from' g_to' g_width' g_length' g_shut' g_safeRooms' g_people' g_led' g_notLed' g_entering' g_latest' g_step' g_wayEntry' g_wayAhead' g_waySteps' g_wayWidth' post0 := by
  subst e_q_people
  subst e_q_safeRooms
  subst e_q_passages
  subst e_q_from
  subst e_q_to
  subst e_q_width
  subst e_q_length
  subst e_q_shut
  subst e_f_lanes
  subst e_f_from
  subst e_f_to
  subst e_f_width
  subst e_f_length
  subst e_f_shut
  subst e_f_safeRooms
  subst e_f_people
  subst e_f_led
  subst e_f_notLed
  subst e_f_entering
  subst e_f_latest
  subst e_f_step
  subst e_f_wayEntry
  subst e_f_wayAhead
  subst e_f_waySteps
  subst e_f_wayWidth
  subst e_g_lanes
  subst e_g_from
  subst e_g_to
  subst e_g_width
  subst e_g_length
  subst e_g_shut
  subst e_g_safeRooms
  subst e_g_people
  subst e_g_led
  subst e_g_notLed
  subst e_g_entering
  subst e_g_latest
  subst e_g_step
  subst e_g_wayEntry
  subst e_g_wayAhead
  subst e_g_waySteps
  subst e_g_wayWidth
  rw [iv_X4_needed] at hv
  rw [vc_X4_needed]
  refine lift_X4_leadAll (by first | with_reducible rfl | simp only [zl, iz_add, iz_sub, iz_mul, iz_neg]) (by first | with_reducible rfl | simp only [zl, iz_add, iz_sub, iz_mul, iz_neg]) (by first | with_reducible rfl | simp only [zl, iz_add, iz_sub, iz_mul, iz_neg]) (by first | with_reducible rfl | simp only [zl, iz_add, iz_sub, iz_mul, iz_neg]) (by first | with_reducible rfl | simp only [zl, iz_add, iz_sub, iz_mul, iz_neg]) (by first | with_reducible rfl | simp only [zl, iz_add, iz_sub, iz_mul, iz_neg]) (by first | with_reducible rfl | simp only [zl, iz_add, iz_sub, iz_mul, iz_neg]) (by first | with_reducible rfl | simp only [zl, iz_add, iz_sub, iz_mul, iz_neg]) (by first | with_reducible rfl | simp only [zl, iz_add, iz_sub, iz_mul, iz_neg]) (by first | with_reducible rfl | simp only [zl, iz_add, iz_sub, iz_mul, iz_neg]) (by first | with_reducible rfl | simp only [zl, iz_add, iz_sub, iz_mul, iz_neg]) (by first | with_reducible rfl | simp only [zl, iz_add, iz_sub, iz_mul, iz_neg]) (by first | with_reducible rfl | simp only [zl, iz_add, iz_sub, iz_mul, iz_neg]) (by first | with_reducible rfl | simp only [zl, iz_add, iz_sub, iz_mul, iz_neg]) (by first | with_reducible rfl | simp only [zl, iz_add, iz_sub, iz_mul, iz_neg]) (by first | with_reducible rfl | simp only [zl, iz_add, iz_sub, iz_mul, iz_neg]) (by first | with_reducible rfl | simp only [zl, iz_add, iz_sub, iz_mul, iz_neg]) (by first | with_reducible rfl | simp only [zl, iz_add, iz_sub, iz_mul, iz_neg]) (by first | with_reducible rfl | simp only [zl, iz_add, iz_sub, iz_mul, iz_neg]) (by first | with_reducible rfl | simp only [zl, iz_add, iz_sub, iz_mul, iz_neg]) (by first | with_reducible rfl | simp only [zl, iz_add, iz_sub, iz_mul, iz_neg]) (by first | with_reducible rfl | simp only [zl, iz_add, iz_sub, iz_mul, iz_neg]) (by first | with_reducible rfl | simp only [zl, iz_add, iz_sub, iz_mul, iz_neg]) (by first | with_reducible rfl | simp only [zl, iz_add, iz_sub, iz_mul, iz_neg]) (by first | with_reducible rfl | simp only [zl, iz_add, iz_sub, iz_mul, iz_neg]) hv (fun r_2 u_1 y_3 y_4 hv er_5 eu_6 => ?_)
  subst er_5; subst eu_6
  try dsimp only
  obtain ⟨hs_7, hv⟩ := hv
  have q_8 := z_eq (x := (iz r_2)) (a := r_2) (by first | with_reducible rfl | simp only [zl, iz_add, iz_sub, iz_mul, iz_neg]) (y := (-6)) (b := (-6)) (by first | with_reducible rfl | simp only [zl, iz_add, iz_sub, iz_mul, iz_neg]) hs_7.1 hs_7.2
  refine ⟨fun c9 => ?_, fun c9 => ?_⟩
  · have hv := hv.1 (fun z9 => c9 (q_8.mpr z9))
    obtain ⟨n_57, hv⟩ := hv
    refine ⟨n_57, lift_X4_needed_L18 (by first | with_reducible rfl | simp only [zl, iz_add, iz_sub, iz_mul, iz_neg]) (by first | with_reducible rfl | simp only [zl, iz_add, iz_sub, iz_mul, iz_neg]) (by first | with_reducible rfl | simp only [zl, iz_add, iz_sub, iz_mul, iz_neg]) (by first | with_reducible rfl | simp only [zl, iz_add, iz_sub, iz_mul, iz_neg]) (by first | with_reducible rfl | simp only [zl, iz_add, iz_sub, iz_mul, iz_neg]) (by first | with_reducible rfl | simp only [zl, iz_add, iz_sub, iz_mul, iz_neg]) (by first | with_reducible rfl | simp only [zl, iz_add, iz_sub, iz_mul, iz_neg]) (by first | with_reducible rfl | simp only [zl, iz_add, iz_sub, iz_mul, iz_neg]) (by first | with_reducible rfl | simp only [zl, iz_add, iz_sub, iz_mul, iz_neg]) (by first | with_reducible rfl | simp only [zl, iz_add, iz_sub, iz_mul, iz_neg]) (fun y_58 y_59 y_60 y_61 y_62 y_63 y_64 y_65 y_66 y_67 y_68 y_69 y_70 y_71 y_72 y_73 y_74 y_75 k2_39 g_lanes_40 g_from_41 g_to_42 g_width_43 g_length_44 g_shut_45 g_safeRooms_46 g_people_47 g_led_48 g_notLed_49 g_entering_50 g_latest_51 g_step_52 g_wayEntry_53 g_wayAhead_54 g_waySteps_55 g_wayWidth_56 hv ey_76 ey_77 ey_78 ey_79 ey_80 ey_81 ey_82 ey_83 ey_84 ey_85 ey_86 ey_87 ey_88 ey_89 ey_90 ey_91 ey_92 ey_93 => ?_)  n_57 _ _ _ _ _ _ _ _ _ _ _ _ _ _ _ _ _ _ _ 0 0 g_lanes g_from g_to g_width g_length g_shut g_safeRooms g_people g_led g_notLed g_entering g_latest g_step g_wayEntry g_wayAhead g_waySteps g_wayWidth (by first | with_reducible rfl | simp only [zl, iz_add, iz_sub, iz_mul, iz_neg]) (by first | with_reducible rfl | simp only [zl, iz_add, iz_sub, iz_mul, iz_neg]) (by first | with_reducible rfl | simp only [zl, iz_add, iz_sub, iz_mul, iz_neg]) (by first | with_reducible rfl | simp only [zl, iz_add, iz_sub, iz_mul, iz_neg]) (by first | with_reducible rfl | simp only [zl, iz_add, iz_sub, iz_mul, iz_neg]) (by first | with_reducible rfl | simp only [zl, iz_add, iz_sub, iz_mul, iz_neg]) (by first | with_reducible rfl | simp only [zl, iz_add, iz_sub, iz_mul, iz_neg]) (by first | with_reducible rfl | simp only [zl, iz_add, iz_sub, iz_mul, iz_neg]) (by first | with_reducible rfl | simp only [zl, iz_add, iz_sub, iz_mul, iz_neg]) (by first | with_reducible rfl | simp only [zl, iz_add, iz_sub, iz_mul, iz_neg]) (by first | with_reducible rfl | simp only [zl, iz_add, iz_sub, iz_mul, iz_neg]) (by first | with_reducible rfl | simp only [zl, iz_add, iz_sub, iz_mul, iz_neg]) (by first | with_reducible rfl | simp only [zl, iz_add, iz_sub, iz_mul, iz_neg]) (by first | with_reducible rfl | simp only [zl, iz_add, iz_sub, iz_mul, iz_neg]) (by first | with_reducible rfl | simp only [zl, iz_add, iz_sub, iz_mul, iz_neg]) (by first | with_reducible rfl | simp only [zl, iz_add, iz_sub, iz_mul, iz_neg]) (by first | with_reducible rfl | simp only [zl, iz_add, iz_sub, iz_mul, iz_neg]) (by first | with_reducible rfl | simp only [zl, iz_add, iz_sub, iz_mul, iz_neg]) (by first | with_reducible rfl | simp only [zl, iz_add, iz_sub, iz_mul, iz_neg]) hv⟩
    subst ey_76
    subst ey_77
    subst ey_78
    subst ey_79
    subst ey_80
    subst ey_81
    subst ey_82
    subst ey_83
    subst ey_84
    subst ey_85
    subst ey_86
    subst ey_87
    subst ey_88
    subst ey_89
    subst ey_90
    subst ey_91
    subst ey_92
    subst ey_93
    exact hp _ _ _ _ hv (by first | with_reducible rfl | simp only [zl, iz_add, iz_sub, iz_mul, iz_neg]) (by first | with_reducible rfl | simp only [zl, iz_add, iz_sub, iz_mul, iz_neg])
  · have hv := hv.2 (q_8.mp c9)
    exact hp _ _ _ _ hv (by first | with_reducible rfl | simp only [zl, iz_add, iz_sub, iz_mul, iz_neg]) (by first | with_reducible rfl | simp only [zl, iz_add, iz_sub, iz_mul, iz_neg])

def iv_X4_door_L41 (K : Int → Int → (Nat → Int) → (Nat → Int) → (Nat → Int) → (Nat → Int) → (Nat → Int) → Int → Int → Int → (Nat → Int) → (Nat → Int) → (Nat → Int) → (Nat → Int) → (Nat → Int) → (Nat → Int) → Int → Int → Prop) (b1 : Int) (b2 : Int) (q_people : (Nat → Int)) (q_safeRooms : Int) (q_passages : Int) (q_from : (Nat → Int)) (q_to : (Nat → Int)) (q_width : (Nat → Int)) (q_length : (Nat → Int)) (q_shut : (Nat → Int)) : Nat → Int → Int → Int → Int → (Nat → Int) → (Nat → Int) → (Nat → Int) → (Nat → Int) → (Nat → Int) → Int → Int → Int → (Nat → Int) → (Nat → Int) → (Nat → Int) → (Nat → Int) → (Nat → Int) → (Nat → Int) → Int → Int → Prop
  | 0, _, _, _, _, _, _, _, _, _, _, _, _, _, _, _, _, _, _, _, _ => False
  | n + 1, v3, v4, v5, g_lanes, g_from, g_to, g_width, g_length, g_shut, g_safeRooms, g_people, g_led, g_notLed, g_entering, g_latest, g_step, g_wayEntry, g_wayAhead, g_waySteps, g_wayWidth =>
    ((sm 60 ∧ sm v5) ∧ ((60 < v5 → K v3 g_lanes g_from g_to g_width g_length g_shut g_safeRooms g_people g_led g_notLed g_entering g_latest g_step g_wayEntry g_wayAhead g_waySteps g_wayWidth) ∧ (¬ 60 < v5 → ((sm v4 ∧ sm v3) ∧ ((v4 ≤ v3 → K v3 g_lanes g_from g_to g_width g_length g_shut g_safeRooms g_people g_led g_notLed g_entering g_latest g_step g_wayEntry g_wayAhead g_waySteps g_wayWidth) ∧ (¬ v4 ≤ v3 → ((zn (v3 + v4)) ∧ (∀ x6_31 : Int, x6_31 = ((v3 + v4) / 2) → (iv_X4_canDoShut b1 x6_31 b2 q_people q_safeRooms q_passages q_from q_to q_width q_length q_shut g_lanes g_from g_to g_width g_length g_shut g_safeRooms g_people g_led g_notLed g_entering g_latest g_step g_wayEntry g_wayAhead g_waySteps g_wayWidth (fun (r_34 : Int) (u_33 : Int × (Nat → Int) × (Nat → Int) × (Nat → Int) × (Nat → Int) × (Nat → Int) × Int × Int × Int × (Nat → Int) × (Nat → Int) × (Nat → Int) × (Nat → Int) × (Nat → Int) × (Nat → Int) × Int × Int) => ((sm r_34 ∧ sm 0) ∧ ((r_34 = 0 → (∀ x3_41 : Int, x3_41 = (x6_31 + 1) → (∀ x5_43 : Int, x5_43 = v5 + 1 → iv_X4_door_L41 K b1 b2 q_people q_safeRooms q_passages q_from q_to q_width q_length q_shut n x3_41 v4 x5_43 u_33.1 u_33.2.1 u_33.2.2.1 u_33.2.2.2.1 u_33.2.2.2.2.1 u_33.2.2.2.2.2.1 u_33.2.2.2.2.2.2.1 u_33.2.2.2.2.2.2.2.1 u_33.2.2.2.2.2.2.2.2.1 u_33.2.2.2.2.2.2.2.2.2.1 u_33.2.2.2.2.2.2.2.2.2.2.1 u_33.2.2.2.2.2.2.2.2.2.2.2.1 u_33.2.2.2.2.2.2.2.2.2.2.2.2.1 u_33.2.2.2.2.2.2.2.2.2.2.2.2.2.1 u_33.2.2.2.2.2.2.2.2.2.2.2.2.2.2.1 u_33.2.2.2.2.2.2.2.2.2.2.2.2.2.2.2.1 u_33.2.2.2.2.2.2.2.2.2.2.2.2.2.2.2.2))) ∧ (¬ r_34 = 0 → (∀ x5_45 : Int, x5_45 = v5 + 1 → iv_X4_door_L41 K b1 b2 q_people q_safeRooms q_passages q_from q_to q_width q_length q_shut n v3 x6_31 x5_45 u_33.1 u_33.2.1 u_33.2.2.1 u_33.2.2.2.1 u_33.2.2.2.2.1 u_33.2.2.2.2.2.1 u_33.2.2.2.2.2.2.1 u_33.2.2.2.2.2.2.2.1 u_33.2.2.2.2.2.2.2.2.1 u_33.2.2.2.2.2.2.2.2.2.1 u_33.2.2.2.2.2.2.2.2.2.2.1 u_33.2.2.2.2.2.2.2.2.2.2.2.1 u_33.2.2.2.2.2.2.2.2.2.2.2.2.1 u_33.2.2.2.2.2.2.2.2.2.2.2.2.2.1 u_33.2.2.2.2.2.2.2.2.2.2.2.2.2.2.1 u_33.2.2.2.2.2.2.2.2.2.2.2.2.2.2.2.1 u_33.2.2.2.2.2.2.2.2.2.2.2.2.2.2.2.2))))))))))))))

set_option maxHeartbeats 4000000 in
theorem lift_X4_door_L41 {K0 : Int32 → Int32 → (Nat → Int32) → (Nat → Int32) → (Nat → Int32) → (Nat → Int32) → (Nat → Int32) → Int32 → Int32 → Int32 → (Nat → Int32) → (Nat → Int32) → (Nat → Int32) → (Nat → Int32) → (Nat → Int32) → (Nat → Int32) → Int32 → Int32 → Prop} {K : Int → Int → (Nat → Int) → (Nat → Int) → (Nat → Int) → (Nat → Int) → (Nat → Int) → Int → Int → Int → (Nat → Int) → (Nat → Int) → (Nat → Int) → (Nat → Int) → (Nat → Int) → (Nat → Int) → Int → Int → Prop} {b1' : Int32} {b1 : Int} {b2' : Int32} {b2 : Int} {q_people' : (Nat → Int32)} {q_people : (Nat → Int)} {q_safeRooms' : Int32} {q_safeRooms : Int} {q_passages' : Int32} {q_passages : Int} {q_from' : (Nat → Int32)} {q_from : (Nat → Int)} {q_to' : (Nat → Int32)} {q_to : (Nat → Int)} {q_width' : (Nat → Int32)} {q_width : (Nat → Int)} {q_length' : (Nat → Int32)} {q_length : (Nat → Int)} {q_shut' : (Nat → Int32)} {q_shut : (Nat → Int)} (e_b1 : b1' = iz b1) (e_b2 : b2' = iz b2) (e_q_people : q_people' = az q_people) (e_q_safeRooms : q_safeRooms' = iz q_safeRooms) (e_q_passages : q_passages' = iz q_passages) (e_q_from : q_from' = az q_from) (e_q_to : q_to' = az q_to) (e_q_width : q_width' = az q_width) (e_q_length : q_length' = az q_length) (e_q_shut : q_shut' = az q_shut)  (hKx : ∀ (k3' : Int32) (k_g_lanes' : Int32) (k_g_from' : (Nat → Int32)) (k_g_to' : (Nat → Int32)) (k_g_width' : (Nat → Int32)) (k_g_length' : (Nat → Int32)) (k_g_shut' : (Nat → Int32)) (k_g_safeRooms' : Int32) (k_g_people' : Int32) (k_g_led' : Int32) (k_g_notLed' : (Nat → Int32)) (k_g_entering' : (Nat → Int32)) (k_g_latest' : (Nat → Int32)) (k_g_step' : (Nat → Int32)) (k_g_wayEntry' : (Nat → Int32)) (k_g_wayAhead' : (Nat → Int32)) (k_g_waySteps' : Int32) (k_g_wayWidth' : Int32) (k3 : Int) (k_g_lanes : Int) (k_g_from : (Nat → Int)) (k_g_to : (Nat → Int)) (k_g_width : (Nat → Int)) (k_g_length : (Nat → Int)) (k_g_shut : (Nat → Int)) (k_g_safeRooms : Int) (k_g_people : Int) (k_g_led : Int) (k_g_notLed : (Nat → Int)) (k_g_entering : (Nat → Int)) (k_g_latest : (Nat → Int)) (k_g_step : (Nat → Int)) (k_g_wayEntry : (Nat → Int)) (k_g_wayAhead : (Nat → Int)) (k_g_waySteps : Int) (k_g_wayWidth : Int), K k3 k_g_lanes k_g_from k_g_to k_g_width k_g_length k_g_shut k_g_safeRooms k_g_people k_g_led k_g_notLed k_g_entering k_g_latest k_g_step k_g_wayEntry k_g_wayAhead k_g_waySteps k_g_wayWidth → k3' = iz k3 → k_g_lanes' = iz k_g_lanes → k_g_from' = az k_g_from → k_g_to' = az k_g_to → k_g_width' = az k_g_width → k_g_length' = az k_g_length → k_g_shut' = az k_g_shut → k_g_safeRooms' = iz k_g_safeRooms → k_g_people' = iz k_g_people → k_g_led' = iz k_g_led → k_g_notLed' = az k_g_notLed → k_g_entering' = az k_g_entering → k_g_latest' = az k_g_latest → k_g_step' = az k_g_step → k_g_wayEntry' = az k_g_wayEntry → k_g_wayAhead' = az k_g_wayAhead → k_g_waySteps' = iz k_g_waySteps → k_g_wayWidth' = iz k_g_wayWidth →  K0 k3' k_g_lanes' k_g_from' k_g_to' k_g_width' k_g_length' k_g_shut' k_g_safeRooms' k_g_people' k_g_led' k_g_notLed' k_g_entering' k_g_latest' k_g_step' k_g_wayEntry' k_g_wayAhead' k_g_waySteps' k_g_wayWidth') :
    ∀ (n : Nat) (v3' : Int32) (v4' : Int32) (v5' : Int32) (g_lanes' : Int32) (g_from' : (Nat → Int32)) (g_to' : (Nat → Int32)) (g_width' : (Nat → Int32)) (g_length' : (Nat → Int32)) (g_shut' : (Nat → Int32)) (g_safeRooms' : Int32) (g_people' : Int32) (g_led' : Int32) (g_notLed' : (Nat → Int32)) (g_entering' : (Nat → Int32)) (g_latest' : (Nat → Int32)) (g_step' : (Nat → Int32)) (g_wayEntry' : (Nat → Int32)) (g_wayAhead' : (Nat → Int32)) (g_waySteps' : Int32) (g_wayWidth' : Int32) (v3 : Int) (v4 : Int) (v5 : Int) (g_lanes : Int) (g_from : (Nat → Int)) (g_to : (Nat → Int)) (g_width : (Nat → Int)) (g_length : (Nat → Int)) (g_shut : (Nat → Int)) (g_safeRooms : Int) (g_people : Int) (g_led : Int) (g_notLed : (Nat → Int)) (g_entering : (Nat → Int)) (g_latest : (Nat → Int)) (g_step : (Nat → Int)) (g_wayEntry : (Nat → Int)) (g_wayAhead : (Nat → Int)) (g_waySteps : Int) (g_wayWidth : Int) (e_v3 : v3' = iz v3) (e_v4 : v4' = iz v4) (e_v5 : v5' = iz v5) (e_g_lanes : g_lanes' = iz g_lanes) (e_g_from : g_from' = az g_from) (e_g_to : g_to' = az g_to) (e_g_width : g_width' = az g_width) (e_g_length : g_length' = az g_length) (e_g_shut : g_shut' = az g_shut) (e_g_safeRooms : g_safeRooms' = iz g_safeRooms) (e_g_people : g_people' = iz g_people) (e_g_led : g_led' = iz g_led) (e_g_notLed : g_notLed' = az g_notLed) (e_g_entering : g_entering' = az g_entering) (e_g_latest : g_latest' = az g_latest) (e_g_step : g_step' = az g_step) (e_g_wayEntry : g_wayEntry' = az g_wayEntry) (e_g_wayAhead : g_wayAhead' = az g_wayAhead) (e_g_waySteps : g_waySteps' = iz g_waySteps) (e_g_wayWidth : g_wayWidth' = iz g_wayWidth), iv_X4_door_L41 K b1 b2 q_people q_safeRooms q_passages q_from q_to q_width q_length q_shut n v3 v4 v5 g_lanes g_from g_to g_width g_length g_shut g_safeRooms g_people g_led g_notLed g_entering g_latest g_step g_wayEntry g_wayAhead g_waySteps g_wayWidth → vc_X4_door_L41 K0 b1' b2' q_people' q_safeRooms' q_passages' q_from' q_to' q_width' q_length' q_shut' n v3' v4' v5' g_lanes' g_from' g_to' g_width' g_length' g_shut' g_safeRooms' g_people' g_led' g_notLed' g_entering' g_latest' g_step' g_wayEntry' g_wayAhead' g_waySteps' g_wayWidth' := by
  subst e_b1
  subst e_b2
  subst e_q_people
  subst e_q_safeRooms
  subst e_q_passages
  subst e_q_from
  subst e_q_to
  subst e_q_width
  subst e_q_length
  subst e_q_shut
  intro n
  induction n with
  | zero =>
    intro v3' v4' v5' g_lanes' g_from' g_to' g_width' g_length' g_shut' g_safeRooms' g_people' g_led' g_notLed' g_entering' g_latest' g_step' g_wayEntry' g_wayAhead' g_waySteps' g_wayWidth' v3 v4 v5 g_lanes g_from g_to g_width g_length g_shut g_safeRooms g_people g_led g_notLed g_entering g_latest g_step g_wayEntry g_wayAhead g_waySteps g_wayWidth e_v3 e_v4 e_v5 e_g_lanes e_g_from e_g_to e_g_width e_g_length e_g_shut e_g_safeRooms e_g_people e_g_led e_g_notLed e_g_entering e_g_latest e_g_step e_g_wayEntry e_g_wayAhead e_g_waySteps e_g_wayWidth hv
    exact False.elim hv
  | succ n ih =>
    intro v3' v4' v5' g_lanes' g_from' g_to' g_width' g_length' g_shut' g_safeRooms' g_people' g_led' g_notLed' g_entering' g_latest' g_step' g_wayEntry' g_wayAhead' g_waySteps' g_wayWidth' v3 v4 v5 g_lanes g_from g_to g_width g_length g_shut g_safeRooms g_people g_led g_notLed g_entering g_latest g_step g_wayEntry g_wayAhead g_waySteps g_wayWidth e_v3 e_v4 e_v5 e_g_lanes e_g_from e_g_to e_g_width e_g_length e_g_shut e_g_safeRooms e_g_people e_g_led e_g_notLed e_g_entering e_g_latest e_g_step e_g_wayEntry e_g_wayAhead e_g_waySteps e_g_wayWidth hv
    subst e_v3
    subst e_v4
    subst e_v5
    subst e_g_lanes
    subst e_g_from
    subst e_g_to
    subst e_g_width
    subst e_g_length
    subst e_g_shut
    subst e_g_safeRooms
    subst e_g_people
    subst e_g_led
    subst e_g_notLed
    subst e_g_entering
    subst e_g_latest
    subst e_g_step
    subst e_g_wayEntry
    subst e_g_wayAhead
    subst e_g_waySteps
    subst e_g_wayWidth
    rw [iv_X4_door_L41] at hv
    rw [vc_X4_door_L41]
    obtain ⟨hs_25, hv⟩ := hv
    have q_26 := z_lt (x := 60) (a := 60) (by first | with_reducible rfl | simp only [zl, iz_add, iz_sub, iz_mul, iz_neg]) (y := (iz v5)) (b := v5) (by first | with_reducible rfl | simp only [zl, iz_add, iz_sub, iz_mul, iz_neg]) hs_25.1 hs_25.2
    refine ⟨fun c9 => ?_, fun c9 => ?_⟩
    · have hv := hv.1 (q_26.mp c9)
      exact hKx _ _ _ _ _ _ _ _ _ _ _ _ _ _ _ _ _ _ v3 g_lanes g_from g_to g_width g_length g_shut g_safeRooms g_people g_led g_notLed g_entering g_latest g_step g_wayEntry g_wayAhead g_waySteps g_wayWidth hv (by first | with_reducible rfl | simp only [zl, iz_add, iz_sub, iz_mul, iz_neg]) (by first | with_reducible rfl | simp only [zl, iz_add, iz_sub, iz_mul, iz_neg]) (by first | with_reducible rfl | simp only [zl, iz_add, iz_sub, iz_mul, iz_neg]) (by first | with_reducible rfl | simp only [zl, iz_add, iz_sub, iz_mul, iz_neg]) (by first | with_reducible rfl | simp only [zl, iz_add, iz_sub, iz_mul, iz_neg]) (by first | with_reducible rfl | simp only [zl, iz_add, iz_sub, iz_mul, iz_neg]) (by first | with_reducible rfl | simp only [zl, iz_add, iz_sub, iz_mul, iz_neg]) (by first | with_reducible rfl | simp only [zl, iz_add, iz_sub, iz_mul, iz_neg]) (by first | with_reducible rfl | simp only [zl, iz_add, iz_sub, iz_mul, iz_neg]) (by first | with_reducible rfl | simp only [zl, iz_add, iz_sub, iz_mul, iz_neg]) (by first | with_reducible rfl | simp only [zl, iz_add, iz_sub, iz_mul, iz_neg]) (by first | with_reducible rfl | simp only [zl, iz_add, iz_sub, iz_mul, iz_neg]) (by first | with_reducible rfl | simp only [zl, iz_add, iz_sub, iz_mul, iz_neg]) (by first | with_reducible rfl | simp only [zl, iz_add, iz_sub, iz_mul, iz_neg]) (by first | with_reducible rfl | simp only [zl, iz_add, iz_sub, iz_mul, iz_neg]) (by first | with_reducible rfl | simp only [zl, iz_add, iz_sub, iz_mul, iz_neg]) (by first | with_reducible rfl | simp only [zl, iz_add, iz_sub, iz_mul, iz_neg]) (by first | with_reducible rfl | simp only [zl, iz_add, iz_sub, iz_mul, iz_neg])
    · have hv := hv.2 (fun z9 => c9 (q_26.mpr z9))
      obtain ⟨hs_27, hv⟩ := hv
      have q_28 := z_le (x := (iz v4)) (a := v4) (by first | with_reducible rfl | simp only [zl, iz_add, iz_sub, iz_mul, iz_neg]) (y := (iz v3)) (b := v3) (by first | with_reducible rfl | simp only [zl, iz_add, iz_sub, iz_mul, iz_neg]) hs_27.1 hs_27.2
      refine ⟨fun c9 => ?_, fun c9 => ?_⟩
      · have hv := hv.1 (q_28.mp c9)
        exact hKx _ _ _ _ _ _ _ _ _ _ _ _ _ _ _ _ _ _ v3 g_lanes g_from g_to g_width g_length g_shut g_safeRooms g_people g_led g_notLed g_entering g_latest g_step g_wayEntry g_wayAhead g_waySteps g_wayWidth hv (by first | with_reducible rfl | simp only [zl, iz_add, iz_sub, iz_mul, iz_neg]) (by first | with_reducible rfl | simp only [zl, iz_add, iz_sub, iz_mul, iz_neg]) (by first | with_reducible rfl | simp only [zl, iz_add, iz_sub, iz_mul, iz_neg]) (by first | with_reducible rfl | simp only [zl, iz_add, iz_sub, iz_mul, iz_neg]) (by first | with_reducible rfl | simp only [zl, iz_add, iz_sub, iz_mul, iz_neg]) (by first | with_reducible rfl | simp only [zl, iz_add, iz_sub, iz_mul, iz_neg]) (by first | with_reducible rfl | simp only [zl, iz_add, iz_sub, iz_mul, iz_neg]) (by first | with_reducible rfl | simp only [zl, iz_add, iz_sub, iz_mul, iz_neg]) (by first | with_reducible rfl | simp only [zl, iz_add, iz_sub, iz_mul, iz_neg]) (by first | with_reducible rfl | simp only [zl, iz_add, iz_sub, iz_mul, iz_neg]) (by first | with_reducible rfl | simp only [zl, iz_add, iz_sub, iz_mul, iz_neg]) (by first | with_reducible rfl | simp only [zl, iz_add, iz_sub, iz_mul, iz_neg]) (by first | with_reducible rfl | simp only [zl, iz_add, iz_sub, iz_mul, iz_neg]) (by first | with_reducible rfl | simp only [zl, iz_add, iz_sub, iz_mul, iz_neg]) (by first | with_reducible rfl | simp only [zl, iz_add, iz_sub, iz_mul, iz_neg]) (by first | with_reducible rfl | simp only [zl, iz_add, iz_sub, iz_mul, iz_neg]) (by first | with_reducible rfl | simp only [zl, iz_add, iz_sub, iz_mul, iz_neg]) (by first | with_reducible rfl | simp only [zl, iz_add, iz_sub, iz_mul, iz_neg])
      · have hv := hv.2 (fun z9 => c9 (q_28.mpr z9))
        obtain ⟨hc_29, hv⟩ := hv
        have e_30 : (((iz v3) + (iz v4)) / 2) = iz ((v3 + v4) / 2) := z_div (by first | with_reducible rfl | simp only [zl, iz_add, iz_sub, iz_mul, iz_neg]) hc_29 (by decide) (by decide)
        try rw [e_30]
        intro y_32 hy_32
        obtain ⟨x6_31, hx6_31⟩ : ∃ z : Int, z = ((v3 + v4) / 2) := ⟨_, rfl⟩
        have hv := hv x6_31 hx6_31
        have ey_32 : y_32 = iz x6_31 := by rw [hy_32, hx6_31]; try exact (by first | with_reducible rfl | simp only [zl, iz_add, iz_sub, iz_mul, iz_neg])
        subst ey_32
        refine lift_X4_canDoShut (by first | with_reducible rfl | simp only [zl, iz_add, iz_sub, iz_mul, iz_neg]) (by first | with_reducible rfl | simp only [zl, iz_add, iz_sub, iz_mul, iz_neg]) (by first | with_reducible rfl | simp only [zl, iz_add, iz_sub, iz_mul, iz_neg]) (by first | with_reducible rfl | simp only [zl, iz_add, iz_sub, iz_mul, iz_neg]) (by first | with_reducible rfl | simp only [zl, iz_add, iz_sub, iz_mul, iz_neg]) (by first | with_reducible rfl | simp only [zl, iz_add, iz_sub, iz_mul, iz_neg]) (by first | with_reducible rfl | simp only [zl, iz_add, iz_sub, iz_mul, iz_neg]) (by first | with_reducible rfl | simp only [zl, iz_add, iz_sub, iz_mul, iz_neg]) (by first | with_reducible rfl | simp only [zl, iz_add, iz_sub, iz_mul, iz_neg]) (by first | with_reducible rfl | simp only [zl, iz_add, iz_sub, iz_mul, iz_neg]) (by first | with_reducible rfl | simp only [zl, iz_add, iz_sub, iz_mul, iz_neg]) (by first | with_reducible rfl | simp only [zl, iz_add, iz_sub, iz_mul, iz_neg]) (by first | with_reducible rfl | simp only [zl, iz_add, iz_sub, iz_mul, iz_neg]) (by first | with_reducible rfl | simp only [zl, iz_add, iz_sub, iz_mul, iz_neg]) (by first | with_reducible rfl | simp only [zl, iz_add, iz_sub, iz_mul, iz_neg]) (by first | with_reducible rfl | simp only [zl, iz_add, iz_sub, iz_mul, iz_neg]) (by first | with_reducible rfl | simp only [zl, iz_add, iz_sub, iz_mul, iz_neg]) (by first | with_reducible rfl | simp only [zl, iz_add, iz_sub, iz_mul, iz_neg]) (by first | with_reducible rfl | simp only [zl, iz_add, iz_sub, iz_mul, iz_neg]) (by first | with_reducible rfl | simp only [zl, iz_add, iz_sub, iz_mul, iz_neg]) (by first | with_reducible rfl | simp only [zl, iz_add, iz_sub, iz_mul, iz_neg]) (by first | with_reducible rfl | simp only [zl, iz_add, iz_sub, iz_mul, iz_neg]) (by first | with_reducible rfl | simp only [zl, iz_add, iz_sub, iz_mul, iz_neg]) (by first | with_reducible rfl | simp only [zl, iz_add, iz_sub, iz_mul, iz_neg]) (by first | with_reducible rfl | simp only [zl, iz_add, iz_sub, iz_mul, iz_neg]) (by first | with_reducible rfl | simp only [zl, iz_add, iz_sub, iz_mul, iz_neg]) (by first | with_reducible rfl | simp only [zl, iz_add, iz_sub, iz_mul, iz_neg]) (by first | with_reducible rfl | simp only [zl, iz_add, iz_sub, iz_mul, iz_neg]) hv (fun r_34 u_33 y_35 y_36 hv er_37 eu_38 => ?_)
        subst er_37; subst eu_38
        try dsimp only
        obtain ⟨hs_39, hv⟩ := hv
        have q_40 := z_eq (x := (iz r_34)) (a := r_34) (by first | with_reducible rfl | simp only [zl, iz_add, iz_sub, iz_mul, iz_neg]) (y := 0) (b := 0) (by first | with_reducible rfl | simp only [zl, iz_add, iz_sub, iz_mul, iz_neg]) hs_39.1 hs_39.2
        refine ⟨fun c9 => ?_, fun c9 => ?_⟩
        · have hv := hv.1 (q_40.mp c9)
          intro y_42 hy_42
          obtain ⟨x3_41, hx3_41⟩ : ∃ z : Int, z = (x6_31 + 1) := ⟨_, rfl⟩
          have hv := hv x3_41 hx3_41
          have ey_42 : y_42 = iz x3_41 := by rw [hy_42, hx3_41]; try exact (by first | with_reducible rfl | simp only [zl, iz_add, iz_sub, iz_mul, iz_neg])
          subst ey_42
          intro y_44 hy_44
          obtain ⟨x5_43, hx5_43⟩ : ∃ z : Int, z = v5 + 1 := ⟨_, rfl⟩
          have hv := hv x5_43 hx5_43
          have ey_44 : y_44 = iz x5_43 := by rw [hy_44, hx5_43]; try exact (by first | with_reducible rfl | simp only [zl, iz_add, iz_sub, iz_mul, iz_neg])
          subst ey_44
          exact ih _ _ _ _ _ _ _ _ _ _ _ _ _ _ _ _ _ _ _ _ x3_41 v4 x5_43 u_33.1 u_33.2.1 u_33.2.2.1 u_33.2.2.2.1 u_33.2.2.2.2.1 u_33.2.2.2.2.2.1 u_33.2.2.2.2.2.2.1 u_33.2.2.2.2.2.2.2.1 u_33.2.2.2.2.2.2.2.2.1 u_33.2.2.2.2.2.2.2.2.2.1 u_33.2.2.2.2.2.2.2.2.2.2.1 u_33.2.2.2.2.2.2.2.2.2.2.2.1 u_33.2.2.2.2.2.2.2.2.2.2.2.2.1 u_33.2.2.2.2.2.2.2.2.2.2.2.2.2.1 u_33.2.2.2.2.2.2.2.2.2.2.2.2.2.2.1 u_33.2.2.2.2.2.2.2.2.2.2.2.2.2.2.2.1 u_33.2.2.2.2.2.2.2.2.2.2.2.2.2.2.2.2 (by first | with_reducible rfl | simp only [zl, iz_add, iz_sub, iz_mul, iz_neg]) (by first | with_reducible rfl | simp only [zl, iz_add, iz_sub, iz_mul, iz_neg]) (by first | with_reducible rfl | simp only [zl, iz_add, iz_sub, iz_mul, iz_neg]) (by first | with_reducible rfl | simp only [zl, iz_add, iz_sub, iz_mul, iz_neg]) (by first | with_reducible rfl | simp only [zl, iz_add, iz_sub, iz_mul, iz_neg]) (by first | with_reducible rfl | simp only [zl, iz_add, iz_sub, iz_mul, iz_neg]) (by first | with_reducible rfl | simp only [zl, iz_add, iz_sub, iz_mul, iz_neg]) (by first | with_reducible rfl | simp only [zl, iz_add, iz_sub, iz_mul, iz_neg]) (by first | with_reducible rfl | simp only [zl, iz_add, iz_sub, iz_mul, iz_neg]) (by first | with_reducible rfl | simp only [zl, iz_add, iz_sub, iz_mul, iz_neg]) (by first | with_reducible rfl | simp only [zl, iz_add, iz_sub, iz_mul, iz_neg]) (by first | with_reducible rfl | simp only [zl, iz_add, iz_sub, iz_mul, iz_neg]) (by first | with_reducible rfl | simp only [zl, iz_add, iz_sub, iz_mul, iz_neg]) (by first | with_reducible rfl | simp only [zl, iz_add, iz_sub, iz_mul, iz_neg]) (by first | with_reducible rfl | simp only [zl, iz_add, iz_sub, iz_mul, iz_neg]) (by first | with_reducible rfl | simp only [zl, iz_add, iz_sub, iz_mul, iz_neg]) (by first | with_reducible rfl | simp only [zl, iz_add, iz_sub, iz_mul, iz_neg]) (by first | with_reducible rfl | simp only [zl, iz_add, iz_sub, iz_mul, iz_neg]) (by first | with_reducible rfl | simp only [zl, iz_add, iz_sub, iz_mul, iz_neg]) (by first | with_reducible rfl | simp only [zl, iz_add, iz_sub, iz_mul, iz_neg]) hv
        · have hv := hv.2 (fun z9 => c9 (q_40.mpr z9))
          intro y_46 hy_46
          obtain ⟨x5_45, hx5_45⟩ : ∃ z : Int, z = v5 + 1 := ⟨_, rfl⟩
          have hv := hv x5_45 hx5_45
          have ey_46 : y_46 = iz x5_45 := by rw [hy_46, hx5_45]; try exact (by first | with_reducible rfl | simp only [zl, iz_add, iz_sub, iz_mul, iz_neg])
          subst ey_46
          exact ih _ _ _ _ _ _ _ _ _ _ _ _ _ _ _ _ _ _ _ _ v3 x6_31 x5_45 u_33.1 u_33.2.1 u_33.2.2.1 u_33.2.2.2.1 u_33.2.2.2.2.1 u_33.2.2.2.2.2.1 u_33.2.2.2.2.2.2.1 u_33.2.2.2.2.2.2.2.1 u_33.2.2.2.2.2.2.2.2.1 u_33.2.2.2.2.2.2.2.2.2.1 u_33.2.2.2.2.2.2.2.2.2.2.1 u_33.2.2.2.2.2.2.2.2.2.2.2.1 u_33.2.2.2.2.2.2.2.2.2.2.2.2.1 u_33.2.2.2.2.2.2.2.2.2.2.2.2.2.1 u_33.2.2.2.2.2.2.2.2.2.2.2.2.2.2.1 u_33.2.2.2.2.2.2.2.2.2.2.2.2.2.2.2.1 u_33.2.2.2.2.2.2.2.2.2.2.2.2.2.2.2.2 (by first | with_reducible rfl | simp only [zl, iz_add, iz_sub, iz_mul, iz_neg]) (by first | with_reducible rfl | simp only [zl, iz_add, iz_sub, iz_mul, iz_neg]) (by first | with_reducible rfl | simp only [zl, iz_add, iz_sub, iz_mul, iz_neg]) (by first | with_reducible rfl | simp only [zl, iz_add, iz_sub, iz_mul, iz_neg]) (by first | with_reducible rfl | simp only [zl, iz_add, iz_sub, iz_mul, iz_neg]) (by first | with_reducible rfl | simp only [zl, iz_add, iz_sub, iz_mul, iz_neg]) (by first | with_reducible rfl | simp only [zl, iz_add, iz_sub, iz_mul, iz_neg]) (by first | with_reducible rfl | simp only [zl, iz_add, iz_sub, iz_mul, iz_neg]) (by first | with_reducible rfl | simp only [zl, iz_add, iz_sub, iz_mul, iz_neg]) (by first | with_reducible rfl | simp only [zl, iz_add, iz_sub, iz_mul, iz_neg]) (by first | with_reducible rfl | simp only [zl, iz_add, iz_sub, iz_mul, iz_neg]) (by first | with_reducible rfl | simp only [zl, iz_add, iz_sub, iz_mul, iz_neg]) (by first | with_reducible rfl | simp only [zl, iz_add, iz_sub, iz_mul, iz_neg]) (by first | with_reducible rfl | simp only [zl, iz_add, iz_sub, iz_mul, iz_neg]) (by first | with_reducible rfl | simp only [zl, iz_add, iz_sub, iz_mul, iz_neg]) (by first | with_reducible rfl | simp only [zl, iz_add, iz_sub, iz_mul, iz_neg]) (by first | with_reducible rfl | simp only [zl, iz_add, iz_sub, iz_mul, iz_neg]) (by first | with_reducible rfl | simp only [zl, iz_add, iz_sub, iz_mul, iz_neg]) (by first | with_reducible rfl | simp only [zl, iz_add, iz_sub, iz_mul, iz_neg]) (by first | with_reducible rfl | simp only [zl, iz_add, iz_sub, iz_mul, iz_neg]) hv

def iv_X4_door (a1 : Int) (q_people : (Nat → Int)) (q_safeRooms : Int) (q_passages : Int) (q_from : (Nat → Int)) (q_to : (Nat → Int)) (q_width : (Nat → Int)) (q_length : (Nat → Int)) (q_shut : (Nat → Int)) (f_lanes : Int) (f_from : (Nat → Int)) (f_to : (Nat → Int)) (f_width : (Nat → Int)) (f_length : (Nat → Int)) (f_shut : (Nat → Int)) (f_safeRooms : Int) (f_people : Int) (f_led : Int) (f_notLed : (Nat → Int)) (f_entering : (Nat → Int)) (f_latest : (Nat → Int)) (f_step : (Nat → Int)) (f_wayEntry : (Nat → Int)) (f_wayAhead : (Nat → Int)) (f_waySteps : Int) (f_wayWidth : Int) (g_lanes : Int) (g_from : (Nat → Int)) (g_to : (Nat → Int)) (g_width : (Nat → Int)) (g_length : (Nat → Int)) (g_shut : (Nat → Int)) (g_safeRooms : Int) (g_people : Int) (g_led : Int) (g_notLed : (Nat → Int)) (g_entering : (Nat → Int)) (g_latest : (Nat → Int)) (g_step : (Nat → Int)) (g_wayEntry : (Nat → Int)) (g_wayAhead : (Nat → Int)) (g_waySteps : Int) (g_wayWidth : Int) (post : Int → (Int × (Nat → Int) × (Nat → Int) × (Nat → Int) × (Nat → Int) × (Nat → Int) × Int × Int × Int × (Nat → Int) × (Nat → Int) × (Nat → Int) × (Nat → Int) × (Nat → Int) × (Nat → Int) × Int × Int × Int × (Nat → Int) × (Nat → Int) × (Nat → Int) × (Nat → Int) × (Nat → Int) × Int × Int × Int × (Nat → Int) × (Nat → Int) × (Nat → Int) × (Nat → Int) × (Nat → Int) × (Nat → Int) × Int × Int) → Prop) : Prop :=
  (iv_X4_isPassage a1 q_passages (fun (r_2 : Int) (u_1 : Unit) => ((sm r_2 ∧ sm 0) ∧ ((¬ r_2 = 0 → (iv_X4_leadAll q_people q_safeRooms q_passages q_from q_to q_width q_length q_shut f_lanes f_from f_to f_width f_length f_shut f_safeRooms f_people f_led f_notLed f_entering f_latest f_step f_wayEntry f_wayAhead f_waySteps f_wayWidth (fun (r_10 : Int) (u_9 : Int × (Nat → Int) × (Nat → Int) × (Nat → Int) × (Nat → Int) × (Nat → Int) × Int × Int × Int × (Nat → Int) × (Nat → Int) × (Nat → Int) × (Nat → Int) × (Nat → Int) × (Nat → Int) × Int × Int) => ((sm r_10 ∧ sm (-6)) ∧ ((¬ r_10 = (-6) → (iv_X0_lastUse a1 u_9.2.2.2.2.2.2.2.2.2.2.1 (fun (r_18 : Int) (u_17 : Unit) => (∀ x4_23 : Int, x4_23 = (r_18 + 1) → (∃ n_65, iv_X4_door_L41 (fun k3_47 g_lanes_48 g_from_49 g_to_50 g_width_51 g_length_52 g_shut_53 g_safeRooms_54 g_people_55 g_led_56 g_notLed_57 g_entering_58 g_latest_59 g_step_60 g_wayEntry_61 g_wayAhead_62 g_waySteps_63 g_wayWidth_64 => post k3_47 (u_9.1, u_9.2.1, u_9.2.2.1, u_9.2.2.2.1, u_9.2.2.2.2.1, u_9.2.2.2.2.2.1, u_9.2.2.2.2.2.2.1, u_9.2.2.2.2.2.2.2.1, u_9.2.2.2.2.2.2.2.2.1, u_9.2.2.2.2.2.2.2.2.2.1, u_9.2.2.2.2.2.2.2.2.2.2.1, u_9.2.2.2.2.2.2.2.2.2.2.2.1, u_9.2.2.2.2.2.2.2.2.2.2.2.2.1, u_9.2.2.2.2.2.2.2.2.2.2.2.2.2.1, u_9.2.2.2.2.2.2.2.2.2.2.2.2.2.2.1, u_9.2.2.2.2.2.2.2.2.2.2.2.2.2.2.2.1, u_9.2.2.2.2.2.2.2.2.2.2.2.2.2.2.2.2, g_lanes_48, g_from_49, g_to_50, g_width_51, g_length_52, g_shut_53, g_safeRooms_54, g_people_55, g_led_56, g_notLed_57, g_entering_58, g_latest_59, g_step_60, g_wayEntry_61, g_wayAhead_62, g_waySteps_63, g_wayWidth_64))  a1 r_10 q_people q_safeRooms q_passages q_from q_to q_width q_length q_shut n_65 0 x4_23 0 g_lanes g_from g_to g_width g_length g_shut g_safeRooms g_people g_led g_notLed g_entering g_latest g_step g_wayEntry g_wayAhead g_waySteps g_wayWidth))))) ∧ (r_10 = (-6) → post (-6) (u_9.1, u_9.2.1, u_9.2.2.1, u_9.2.2.2.1, u_9.2.2.2.2.1, u_9.2.2.2.2.2.1, u_9.2.2.2.2.2.2.1, u_9.2.2.2.2.2.2.2.1, u_9.2.2.2.2.2.2.2.2.1, u_9.2.2.2.2.2.2.2.2.2.1, u_9.2.2.2.2.2.2.2.2.2.2.1, u_9.2.2.2.2.2.2.2.2.2.2.2.1, u_9.2.2.2.2.2.2.2.2.2.2.2.2.1, u_9.2.2.2.2.2.2.2.2.2.2.2.2.2.1, u_9.2.2.2.2.2.2.2.2.2.2.2.2.2.2.1, u_9.2.2.2.2.2.2.2.2.2.2.2.2.2.2.2.1, u_9.2.2.2.2.2.2.2.2.2.2.2.2.2.2.2.2, g_lanes, g_from, g_to, g_width, g_length, g_shut, g_safeRooms, g_people, g_led, g_notLed, g_entering, g_latest, g_step, g_wayEntry, g_wayAhead, g_waySteps, g_wayWidth))))))) ∧ (r_2 = 0 → post (-1) (f_lanes, f_from, f_to, f_width, f_length, f_shut, f_safeRooms, f_people, f_led, f_notLed, f_entering, f_latest, f_step, f_wayEntry, f_wayAhead, f_waySteps, f_wayWidth, g_lanes, g_from, g_to, g_width, g_length, g_shut, g_safeRooms, g_people, g_led, g_notLed, g_entering, g_latest, g_step, g_wayEntry, g_wayAhead, g_waySteps, g_wayWidth))))))

set_option maxHeartbeats 4000000 in
theorem lift_X4_door {a1' : Int32} {a1 : Int} {q_people' : (Nat → Int32)} {q_people : (Nat → Int)} {q_safeRooms' : Int32} {q_safeRooms : Int} {q_passages' : Int32} {q_passages : Int} {q_from' : (Nat → Int32)} {q_from : (Nat → Int)} {q_to' : (Nat → Int32)} {q_to : (Nat → Int)} {q_width' : (Nat → Int32)} {q_width : (Nat → Int)} {q_length' : (Nat → Int32)} {q_length : (Nat → Int)} {q_shut' : (Nat → Int32)} {q_shut : (Nat → Int)} {f_lanes' : Int32} {f_lanes : Int} {f_from' : (Nat → Int32)} {f_from : (Nat → Int)} {f_to' : (Nat → Int32)} {f_to : (Nat → Int)} {f_width' : (Nat → Int32)} {f_width : (Nat → Int)} {f_length' : (Nat → Int32)} {f_length : (Nat → Int)} {f_shut' : (Nat → Int32)} {f_shut : (Nat → Int)} {f_safeRooms' : Int32} {f_safeRooms : Int} {f_people' : Int32} {f_people : Int} {f_led' : Int32} {f_led : Int} {f_notLed' : (Nat → Int32)} {f_notLed : (Nat → Int)} {f_entering' : (Nat → Int32)} {f_entering : (Nat → Int)} {f_latest' : (Nat → Int32)} {f_latest : (Nat → Int)} {f_step' : (Nat → Int32)} {f_step : (Nat → Int)} {f_wayEntry' : (Nat → Int32)} {f_wayEntry : (Nat → Int)} {f_wayAhead' : (Nat → Int32)} {f_wayAhead : (Nat → Int)} {f_waySteps' : Int32} {f_waySteps : Int} {f_wayWidth' : Int32} {f_wayWidth : Int} {g_lanes' : Int32} {g_lanes : Int} {g_from' : (Nat → Int32)} {g_from : (Nat → Int)} {g_to' : (Nat → Int32)} {g_to : (Nat → Int)} {g_width' : (Nat → Int32)} {g_width : (Nat → Int)} {g_length' : (Nat → Int32)} {g_length : (Nat → Int)} {g_shut' : (Nat → Int32)} {g_shut : (Nat → Int)} {g_safeRooms' : Int32} {g_safeRooms : Int} {g_people' : Int32} {g_people : Int} {g_led' : Int32} {g_led : Int} {g_notLed' : (Nat → Int32)} {g_notLed : (Nat → Int)} {g_entering' : (Nat → Int32)} {g_entering : (Nat → Int)} {g_latest' : (Nat → Int32)} {g_latest : (Nat → Int)} {g_step' : (Nat → Int32)} {g_step : (Nat → Int)} {g_wayEntry' : (Nat → Int32)} {g_wayEntry : (Nat → Int)} {g_wayAhead' : (Nat → Int32)} {g_wayAhead : (Nat → Int)} {g_waySteps' : Int32} {g_waySteps : Int} {g_wayWidth' : Int32} {g_wayWidth : Int} (e_a1 : a1' = iz a1) (e_q_people : q_people' = az q_people) (e_q_safeRooms : q_safeRooms' = iz q_safeRooms) (e_q_passages : q_passages' = iz q_passages) (e_q_from : q_from' = az q_from) (e_q_to : q_to' = az q_to) (e_q_width : q_width' = az q_width) (e_q_length : q_length' = az q_length) (e_q_shut : q_shut' = az q_shut) (e_f_lanes : f_lanes' = iz f_lanes) (e_f_from : f_from' = az f_from) (e_f_to : f_to' = az f_to) (e_f_width : f_width' = az f_width) (e_f_length : f_length' = az f_length) (e_f_shut : f_shut' = az f_shut) (e_f_safeRooms : f_safeRooms' = iz f_safeRooms) (e_f_people : f_people' = iz f_people) (e_f_led : f_led' = iz f_led) (e_f_notLed : f_notLed' = az f_notLed) (e_f_entering : f_entering' = az f_entering) (e_f_latest : f_latest' = az f_latest) (e_f_step : f_step' = az f_step) (e_f_wayEntry : f_wayEntry' = az f_wayEntry) (e_f_wayAhead : f_wayAhead' = az f_wayAhead) (e_f_waySteps : f_waySteps' = iz f_waySteps) (e_f_wayWidth : f_wayWidth' = iz f_wayWidth) (e_g_lanes : g_lanes' = iz g_lanes) (e_g_from : g_from' = az g_from) (e_g_to : g_to' = az g_to) (e_g_width : g_width' = az g_width) (e_g_length : g_length' = az g_length) (e_g_shut : g_shut' = az g_shut) (e_g_safeRooms : g_safeRooms' = iz g_safeRooms) (e_g_people : g_people' = iz g_people) (e_g_led : g_led' = iz g_led) (e_g_notLed : g_notLed' = az g_notLed) (e_g_entering : g_entering' = az g_entering) (e_g_latest : g_latest' = az g_latest) (e_g_step : g_step' = az g_step) (e_g_wayEntry : g_wayEntry' = az g_wayEntry) (e_g_wayAhead : g_wayAhead' = az g_wayAhead) (e_g_waySteps : g_waySteps' = iz g_waySteps) (e_g_wayWidth : g_wayWidth' = iz g_wayWidth) {post0 : Int32 → (Int32 × (Nat → Int32) × (Nat → Int32) × (Nat → Int32) × (Nat → Int32) × (Nat → Int32) × Int32 × Int32 × Int32 × (Nat → Int32) × (Nat → Int32) × (Nat → Int32) × (Nat → Int32) × (Nat → Int32) × (Nat → Int32) × Int32 × Int32 × Int32 × (Nat → Int32) × (Nat → Int32) × (Nat → Int32) × (Nat → Int32) × (Nat → Int32) × Int32 × Int32 × Int32 × (Nat → Int32) × (Nat → Int32) × (Nat → Int32) × (Nat → Int32) × (Nat → Int32) × (Nat → Int32) × Int32 × Int32) → Prop} {post : Int → (Int × (Nat → Int) × (Nat → Int) × (Nat → Int) × (Nat → Int) × (Nat → Int) × Int × Int × Int × (Nat → Int) × (Nat → Int) × (Nat → Int) × (Nat → Int) × (Nat → Int) × (Nat → Int) × Int × Int × Int × (Nat → Int) × (Nat → Int) × (Nat → Int) × (Nat → Int) × (Nat → Int) × Int × Int × Int × (Nat → Int) × (Nat → Int) × (Nat → Int) × (Nat → Int) × (Nat → Int) × (Nat → Int) × Int × Int) → Prop} (hv : iv_X4_door a1 q_people q_safeRooms q_passages q_from q_to q_width q_length q_shut f_lanes f_from f_to f_width f_length f_shut f_safeRooms f_people f_led f_notLed f_entering f_latest f_step f_wayEntry f_wayAhead f_waySteps f_wayWidth g_lanes g_from g_to g_width g_length g_shut g_safeRooms g_people g_led g_notLed g_entering g_latest g_step g_wayEntry g_wayAhead g_waySteps g_wayWidth post) (hp : ∀ (r : Int) (u : Int × (Nat → Int) × (Nat → Int) × (Nat → Int) × (Nat → Int) × (Nat → Int) × Int × Int × Int × (Nat → Int) × (Nat → Int) × (Nat → Int) × (Nat → Int) × (Nat → Int) × (Nat → Int) × Int × Int × Int × (Nat → Int) × (Nat → Int) × (Nat → Int) × (Nat → Int) × (Nat → Int) × Int × Int × Int × (Nat → Int) × (Nat → Int) × (Nat → Int) × (Nat → Int) × (Nat → Int) × (Nat → Int) × Int × Int) (x : Int32) (y : Int32 × (Nat → Int32) × (Nat → Int32) × (Nat → Int32) × (Nat → Int32) × (Nat → Int32) × Int32 × Int32 × Int32 × (Nat → Int32) × (Nat → Int32) × (Nat → Int32) × (Nat → Int32) × (Nat → Int32) × (Nat → Int32) × Int32 × Int32 × Int32 × (Nat → Int32) × (Nat → Int32) × (Nat → Int32) × (Nat → Int32) × (Nat → Int32) × Int32 × Int32 × Int32 × (Nat → Int32) × (Nat → Int32) × (Nat → Int32) × (Nat → Int32) × (Nat → Int32) × (Nat → Int32) × Int32 × Int32), post r u → x = iz r → y = (iz u.1, az u.2.1, az u.2.2.1, az u.2.2.2.1, az u.2.2.2.2.1, az u.2.2.2.2.2.1, iz u.2.2.2.2.2.2.1, iz u.2.2.2.2.2.2.2.1, iz u.2.2.2.2.2.2.2.2.1, az u.2.2.2.2.2.2.2.2.2.1, az u.2.2.2.2.2.2.2.2.2.2.1, az u.2.2.2.2.2.2.2.2.2.2.2.1, az u.2.2.2.2.2.2.2.2.2.2.2.2.1, az u.2.2.2.2.2.2.2.2.2.2.2.2.2.1, az u.2.2.2.2.2.2.2.2.2.2.2.2.2.2.1, iz u.2.2.2.2.2.2.2.2.2.2.2.2.2.2.2.1, iz u.2.2.2.2.2.2.2.2.2.2.2.2.2.2.2.2.1, iz u.2.2.2.2.2.2.2.2.2.2.2.2.2.2.2.2.2.1, az u.2.2.2.2.2.2.2.2.2.2.2.2.2.2.2.2.2.2.1, az u.2.2.2.2.2.2.2.2.2.2.2.2.2.2.2.2.2.2.2.1, az u.2.2.2.2.2.2.2.2.2.2.2.2.2.2.2.2.2.2.2.2.1, az u.2.2.2.2.2.2.2.2.2.2.2.2.2.2.2.2.2.2.2.2.2.1, az u.2.2.2.2.2.2.2.2.2.2.2.2.2.2.2.2.2.2.2.2.2.2.1, iz u.2.2.2.2.2.2.2.2.2.2.2.2.2.2.2.2.2.2.2.2.2.2.2.1, iz u.2.2.2.2.2.2.2.2.2.2.2.2.2.2.2.2.2.2.2.2.2.2.2.2.1, iz u.2.2.2.2.2.2.2.2.2.2.2.2.2.2.2.2.2.2.2.2.2.2.2.2.2.1, az u.2.2.2.2.2.2.2.2.2.2.2.2.2.2.2.2.2.2.2.2.2.2.2.2.2.2.1, az u.2.2.2.2.2.2.2.2.2.2.2.2.2.2.2.2.2.2.2.2.2.2.2.2.2.2.2.1, az u.2.2.2.2.2.2.2.2.2.2.2.2.2.2.2.2.2.2.2.2.2.2.2.2.2.2.2.2.1, az u.2.2.2.2.2.2.2.2.2.2.2.2.2.2.2.2.2.2.2.2.2.2.2.2.2.2.2.2.2.1, az u.2.2.2.2.2.2.2.2.2.2.2.2.2.2.2.2.2.2.2.2.2.2.2.2.2.2.2.2.2.2.1, az u.2.2.2.2.2.2.2.2.2.2.2.2.2.2.2.2.2.2.2.2.2.2.2.2.2.2.2.2.2.2.2.1, iz u.2.2.2.2.2.2.2.2.2.2.2.2.2.2.2.2.2.2.2.2.2.2.2.2.2.2.2.2.2.2.2.2.1, iz u.2.2.2.2.2.2.2.2.2.2.2.2.2.2.2.2.2.2.2.2.2.2.2.2.2.2.2.2.2.2.2.2.2) → post0 x y) : vc_X4_door a1' q_people' q_safeRooms' q_passages' q_from' q_to' q_width' q_length' q_shut' f_lanes' f_from' f_to' f_width' f_length' f_shut' f_safeRooms' f_people' f_led' f_notLed' f_entering' f_latest' f_step' f_wayEntry' f_wayAhead' f_waySteps' f_wayWidth' g_lanes' g_from' g_to' g_width' g_length' g_shut' g_safeRooms' g_people' g_led' g_notLed' g_entering' g_latest' g_step' g_wayEntry' g_wayAhead' g_waySteps' g_wayWidth' post0 := by
  subst e_a1
  subst e_q_people
  subst e_q_safeRooms
  subst e_q_passages
  subst e_q_from
  subst e_q_to
  subst e_q_width
  subst e_q_length
  subst e_q_shut
  subst e_f_lanes
  subst e_f_from
  subst e_f_to
  subst e_f_width
  subst e_f_length
  subst e_f_shut
  subst e_f_safeRooms
  subst e_f_people
  subst e_f_led
  subst e_f_notLed
  subst e_f_entering
  subst e_f_latest
  subst e_f_step
  subst e_f_wayEntry
  subst e_f_wayAhead
  subst e_f_waySteps
  subst e_f_wayWidth
  subst e_g_lanes
  subst e_g_from
  subst e_g_to
  subst e_g_width
  subst e_g_length
  subst e_g_shut
  subst e_g_safeRooms
  subst e_g_people
  subst e_g_led
  subst e_g_notLed
  subst e_g_entering
  subst e_g_latest
  subst e_g_step
  subst e_g_wayEntry
  subst e_g_wayAhead
  subst e_g_waySteps
  subst e_g_wayWidth
  rw [iv_X4_door] at hv
  rw [vc_X4_door]
  refine lift_X4_isPassage (by first | with_reducible rfl | simp only [zl, iz_add, iz_sub, iz_mul, iz_neg]) (by first | with_reducible rfl | simp only [zl, iz_add, iz_sub, iz_mul, iz_neg]) hv (fun r_2 u_1 y_3 y_4 hv er_5 eu_6 => ?_)
  subst er_5; subst eu_6
  try dsimp only
  obtain ⟨hs_7, hv⟩ := hv
  have q_8 := z_eq (x := (iz r_2)) (a := r_2) (by first | with_reducible rfl | simp only [zl, iz_add, iz_sub, iz_mul, iz_neg]) (y := 0) (b := 0) (by first | with_reducible rfl | simp only [zl, iz_add, iz_sub, iz_mul, iz_neg]) hs_7.1 hs_7.2
  refine ⟨fun c9 => ?_, fun c9 => ?_⟩
  · have hv := hv.1 (fun z9 => c9 (q_8.mpr z9))
    refine lift_X4_leadAll (by first | with_reducible rfl | simp only [zl, iz_add, iz_sub, iz_mul, iz_neg]) (by first | with_reducible rfl | simp only [zl, iz_add, iz_sub, iz_mul, iz_neg]) (by first | with_reducible rfl | simp only [zl, iz_add, iz_sub, iz_mul, iz_neg]) (by first | with_reducible rfl | simp only [zl, iz_add, iz_sub, iz_mul, iz_neg]) (by first | with_reducible rfl | simp only [zl, iz_add, iz_sub, iz_mul, iz_neg]) (by first | with_reducible rfl | simp only [zl, iz_add, iz_sub, iz_mul, iz_neg]) (by first | with_reducible rfl | simp only [zl, iz_add, iz_sub, iz_mul, iz_neg]) (by first | with_reducible rfl | simp only [zl, iz_add, iz_sub, iz_mul, iz_neg]) (by first | with_reducible rfl | simp only [zl, iz_add, iz_sub, iz_mul, iz_neg]) (by first | with_reducible rfl | simp only [zl, iz_add, iz_sub, iz_mul, iz_neg]) (by first | with_reducible rfl | simp only [zl, iz_add, iz_sub, iz_mul, iz_neg]) (by first | with_reducible rfl | simp only [zl, iz_add, iz_sub, iz_mul, iz_neg]) (by first | with_reducible rfl | simp only [zl, iz_add, iz_sub, iz_mul, iz_neg]) (by first | with_reducible rfl | simp only [zl, iz_add, iz_sub, iz_mul, iz_neg]) (by first | with_reducible rfl | simp only [zl, iz_add, iz_sub, iz_mul, iz_neg]) (by first | with_reducible rfl | simp only [zl, iz_add, iz_sub, iz_mul, iz_neg]) (by first | with_reducible rfl | simp only [zl, iz_add, iz_sub, iz_mul, iz_neg]) (by first | with_reducible rfl | simp only [zl, iz_add, iz_sub, iz_mul, iz_neg]) (by first | with_reducible rfl | simp only [zl, iz_add, iz_sub, iz_mul, iz_neg]) (by first | with_reducible rfl | simp only [zl, iz_add, iz_sub, iz_mul, iz_neg]) (by first | with_reducible rfl | simp only [zl, iz_add, iz_sub, iz_mul, iz_neg]) (by first | with_reducible rfl | simp only [zl, iz_add, iz_sub, iz_mul, iz_neg]) (by first | with_reducible rfl | simp only [zl, iz_add, iz_sub, iz_mul, iz_neg]) (by first | with_reducible rfl | simp only [zl, iz_add, iz_sub, iz_mul, iz_neg]) (by first | with_reducible rfl | simp only [zl, iz_add, iz_sub, iz_mul, iz_neg]) hv (fun r_10 u_9 y_11 y_12 hv er_13 eu_14 => ?_)
    subst er_13; subst eu_14
    try dsimp only
    obtain ⟨hs_15, hv⟩ := hv
    have q_16 := z_eq (x := (iz r_10)) (a := r_10) (by first | with_reducible rfl | simp only [zl, iz_add, iz_sub, iz_mul, iz_neg]) (y := (-6)) (b := (-6)) (by first | with_reducible rfl | simp only [zl, iz_add, iz_sub, iz_mul, iz_neg]) hs_15.1 hs_15.2
    refine ⟨fun c9 => ?_, fun c9 => ?_⟩
    · have hv := hv.1 (fun z9 => c9 (q_16.mpr z9))
      refine lift_X0_lastUse (by first | with_reducible rfl | simp only [zl, iz_add, iz_sub, iz_mul, iz_neg]) (by first | with_reducible rfl | simp only [zl, iz_add, iz_sub, iz_mul, iz_neg]) hv (fun r_18 u_17 y_19 y_20 hv er_21 eu_22 => ?_)
      subst er_21; subst eu_22
      try dsimp only
      intro y_24 hy_24
      obtain ⟨x4_23, hx4_23⟩ : ∃ z : Int, z = (r_18 + 1) := ⟨_, rfl⟩
      have hv := hv x4_23 hx4_23
      have ey_24 : y_24 = iz x4_23 := by rw [hy_24, hx4_23]; try exact (by first | with_reducible rfl | simp only [zl, iz_add, iz_sub, iz_mul, iz_neg])
      subst ey_24
      obtain ⟨n_65, hv⟩ := hv
      refine ⟨n_65, lift_X4_door_L41 (by first | with_reducible rfl | simp only [zl, iz_add, iz_sub, iz_mul, iz_neg]) (by first | with_reducible rfl | simp only [zl, iz_add, iz_sub, iz_mul, iz_neg]) (by first | with_reducible rfl | simp only [zl, iz_add, iz_sub, iz_mul, iz_neg]) (by first | with_reducible rfl | simp only [zl, iz_add, iz_sub, iz_mul, iz_neg]) (by first | with_reducible rfl | simp only [zl, iz_add, iz_sub, iz_mul, iz_neg]) (by first | with_reducible rfl | simp only [zl, iz_add, iz_sub, iz_mul, iz_neg]) (by first | with_reducible rfl | simp only [zl, iz_add, iz_sub, iz_mul, iz_neg]) (by first | with_reducible rfl | simp only [zl, iz_add, iz_sub, iz_mul, iz_neg]) (by first | with_reducible rfl | simp only [zl, iz_add, iz_sub, iz_mul, iz_neg]) (by first | with_reducible rfl | simp only [zl, iz_add, iz_sub, iz_mul, iz_neg]) (fun y_66 y_67 y_68 y_69 y_70 y_71 y_72 y_73 y_74 y_75 y_76 y_77 y_78 y_79 y_80 y_81 y_82 y_83 k3_47 g_lanes_48 g_from_49 g_to_50 g_width_51 g_length_52 g_shut_53 g_safeRooms_54 g_people_55 g_led_56 g_notLed_57 g_entering_58 g_latest_59 g_step_60 g_wayEntry_61 g_wayAhead_62 g_waySteps_63 g_wayWidth_64 hv ey_84 ey_85 ey_86 ey_87 ey_88 ey_89 ey_90 ey_91 ey_92 ey_93 ey_94 ey_95 ey_96 ey_97 ey_98 ey_99 ey_100 ey_101 => ?_)  n_65 _ _ _ _ _ _ _ _ _ _ _ _ _ _ _ _ _ _ _ _ 0 x4_23 0 g_lanes g_from g_to g_width g_length g_shut g_safeRooms g_people g_led g_notLed g_entering g_latest g_step g_wayEntry g_wayAhead g_waySteps g_wayWidth (by first | with_reducible rfl | simp only [zl, iz_add, iz_sub, iz_mul, iz_neg]) (by first | with_reducible rfl | simp only [zl, iz_add, iz_sub, iz_mul, iz_neg]) (by first | with_reducible rfl | simp only [zl, iz_add, iz_sub, iz_mul, iz_neg]) (by first | with_reducible rfl | simp only [zl, iz_add, iz_sub, iz_mul, iz_neg]) (by first | with_reducible rfl | simp only [zl, iz_add, iz_sub, iz_mul, iz_neg]) (by first | with_reducible rfl | simp only [zl, iz_add, iz_sub, iz_mul, iz_neg]) (by first | with_reducible rfl | simp only [zl, iz_add, iz_sub, iz_mul, iz_neg]) (by first | with_reducible rfl | simp only [zl, iz_add, iz_sub, iz_mul, iz_neg]) (by first | with_reducible rfl | simp only [zl, iz_add, iz_sub, iz_mul, iz_neg]) (by first | with_reducible rfl | simp only [zl, iz_add, iz_sub, iz_mul, iz_neg]) (by first | with_reducible rfl | simp only [zl, iz_add, iz_sub, iz_mul, iz_neg]) (by first | with_reducible rfl | simp only [zl, iz_add, iz_sub, iz_mul, iz_neg]) (by first | with_reducible rfl | simp only [zl, iz_add, iz_sub, iz_mul, iz_neg]) (by first | with_reducible rfl | simp only [zl, iz_add, iz_sub, iz_mul, iz_neg]) (by first | with_reducible rfl | simp only [zl, iz_add, iz_sub, iz_mul, iz_neg]) (by first | with_reducible rfl | simp only [zl, iz_add, iz_sub, iz_mul, iz_neg]) (by first | with_reducible rfl | simp only [zl, iz_add, iz_sub, iz_mul, iz_neg]) (by first | with_reducible rfl | simp only [zl, iz_add, iz_sub, iz_mul, iz_neg]) (by first | with_reducible rfl | simp only [zl, iz_add, iz_sub, iz_mul, iz_neg]) (by first | with_reducible rfl | simp only [zl, iz_add, iz_sub, iz_mul, iz_neg]) hv⟩
      subst ey_84
      subst ey_85
      subst ey_86
      subst ey_87
      subst ey_88
      subst ey_89
      subst ey_90
      subst ey_91
      subst ey_92
      subst ey_93
      subst ey_94
      subst ey_95
      subst ey_96
      subst ey_97
      subst ey_98
      subst ey_99
      subst ey_100
      subst ey_101
      exact hp _ _ _ _ hv (by first | with_reducible rfl | simp only [zl, iz_add, iz_sub, iz_mul, iz_neg]) (by first | with_reducible rfl | simp only [zl, iz_add, iz_sub, iz_mul, iz_neg])
    · have hv := hv.2 (q_16.mp c9)
      exact hp _ _ _ _ hv (by first | with_reducible rfl | simp only [zl, iz_add, iz_sub, iz_mul, iz_neg]) (by first | with_reducible rfl | simp only [zl, iz_add, iz_sub, iz_mul, iz_neg])
  · have hv := hv.2 (q_8.mp c9)
    exact hp _ _ _ _ hv (by first | with_reducible rfl | simp only [zl, iz_add, iz_sub, iz_mul, iz_neg]) (by first | with_reducible rfl | simp only [zl, iz_add, iz_sub, iz_mul, iz_neg])

def iv_X4_rush_L27 (K : (Nat → Int) → (Nat → Int) → (Nat → Int) → (Nat → Int) → Prop) (b1 : Int) (q_safeRooms : Int) (q_passages : Int) (q_from : (Nat → Int)) (q_to : (Nat → Int)) (q_width : (Nat → Int)) (q_length : (Nat → Int)) (q_shut : (Nat → Int)) : Nat → Int → (Nat → Int) → (Nat → Int) → (Nat → Int) → (Nat → Int) → Prop
  | 0, _, _, _, _, _ => False
  | n + 1, v2, t_here, t_arriving, t_distance, t_firstPassage =>
    ((sm b1 ∧ sm v2) ∧ ((b1 ≤ v2 → K t_here t_arriving t_distance t_firstPassage) ∧ (¬ b1 ≤ v2 → (iv_X3_arrive v2 t_here t_arriving (fun (u_16 : (Nat → Int) × (Nat → Int)) => (iv_X3_leave v2 u_16.1 u_16.2 t_distance t_firstPassage q_safeRooms q_passages q_from q_to q_width q_length q_shut (fun (u_21 : (Nat → Int) × (Nat → Int) × (Nat → Int) × (Nat → Int)) => (∀ x2_26 : Int, x2_26 = v2 + 1 → iv_X4_rush_L27 K b1 q_safeRooms q_passages q_from q_to q_width q_length q_shut n x2_26 u_21.1 u_21.2.1 u_21.2.2.1 u_21.2.2.2))))))))

set_option maxHeartbeats 4000000 in
theorem lift_X4_rush_L27 {K0 : (Nat → Int32) → (Nat → Int32) → (Nat → Int32) → (Nat → Int32) → Prop} {K : (Nat → Int) → (Nat → Int) → (Nat → Int) → (Nat → Int) → Prop} {b1' : Int32} {b1 : Int} {q_safeRooms' : Int32} {q_safeRooms : Int} {q_passages' : Int32} {q_passages : Int} {q_from' : (Nat → Int32)} {q_from : (Nat → Int)} {q_to' : (Nat → Int32)} {q_to : (Nat → Int)} {q_width' : (Nat → Int32)} {q_width : (Nat → Int)} {q_length' : (Nat → Int32)} {q_length : (Nat → Int)} {q_shut' : (Nat → Int32)} {q_shut : (Nat → Int)} (e_b1 : b1' = iz b1) (e_q_safeRooms : q_safeRooms' = iz q_safeRooms) (e_q_passages : q_passages' = iz q_passages) (e_q_from : q_from' = az q_from) (e_q_to : q_to' = az q_to) (e_q_width : q_width' = az q_width) (e_q_length : q_length' = az q_length) (e_q_shut : q_shut' = az q_shut)  (hKx : ∀ (k_t_here' : (Nat → Int32)) (k_t_arriving' : (Nat → Int32)) (k_t_distance' : (Nat → Int32)) (k_t_firstPassage' : (Nat → Int32)) (k_t_here : (Nat → Int)) (k_t_arriving : (Nat → Int)) (k_t_distance : (Nat → Int)) (k_t_firstPassage : (Nat → Int)), K k_t_here k_t_arriving k_t_distance k_t_firstPassage → k_t_here' = az k_t_here → k_t_arriving' = az k_t_arriving → k_t_distance' = az k_t_distance → k_t_firstPassage' = az k_t_firstPassage →  K0 k_t_here' k_t_arriving' k_t_distance' k_t_firstPassage') :
    ∀ (n : Nat) (v2' : Int32) (t_here' : (Nat → Int32)) (t_arriving' : (Nat → Int32)) (t_distance' : (Nat → Int32)) (t_firstPassage' : (Nat → Int32)) (v2 : Int) (t_here : (Nat → Int)) (t_arriving : (Nat → Int)) (t_distance : (Nat → Int)) (t_firstPassage : (Nat → Int)) (e_v2 : v2' = iz v2) (e_t_here : t_here' = az t_here) (e_t_arriving : t_arriving' = az t_arriving) (e_t_distance : t_distance' = az t_distance) (e_t_firstPassage : t_firstPassage' = az t_firstPassage), iv_X4_rush_L27 K b1 q_safeRooms q_passages q_from q_to q_width q_length q_shut n v2 t_here t_arriving t_distance t_firstPassage → vc_X4_rush_L27 K0 b1' q_safeRooms' q_passages' q_from' q_to' q_width' q_length' q_shut' n v2' t_here' t_arriving' t_distance' t_firstPassage' := by
  subst e_b1
  subst e_q_safeRooms
  subst e_q_passages
  subst e_q_from
  subst e_q_to
  subst e_q_width
  subst e_q_length
  subst e_q_shut
  intro n
  induction n with
  | zero =>
    intro v2' t_here' t_arriving' t_distance' t_firstPassage' v2 t_here t_arriving t_distance t_firstPassage e_v2 e_t_here e_t_arriving e_t_distance e_t_firstPassage hv
    exact False.elim hv
  | succ n ih =>
    intro v2' t_here' t_arriving' t_distance' t_firstPassage' v2 t_here t_arriving t_distance t_firstPassage e_v2 e_t_here e_t_arriving e_t_distance e_t_firstPassage hv
    subst e_v2
    subst e_t_here
    subst e_t_arriving
    subst e_t_distance
    subst e_t_firstPassage
    rw [iv_X4_rush_L27] at hv
    rw [vc_X4_rush_L27]
    obtain ⟨hs_14, hv⟩ := hv
    have q_15 := z_le (x := (iz b1)) (a := b1) (by first | with_reducible rfl | simp only [zl, iz_add, iz_sub, iz_mul, iz_neg]) (y := (iz v2)) (b := v2) (by first | with_reducible rfl | simp only [zl, iz_add, iz_sub, iz_mul, iz_neg]) hs_14.1 hs_14.2
    refine ⟨fun c9 => ?_, fun c9 => ?_⟩
    · have hv := hv.1 (q_15.mp c9)
      exact hKx _ _ _ _ t_here t_arriving t_distance t_firstPassage hv (by first | with_reducible rfl | simp only [zl, iz_add, iz_sub, iz_mul, iz_neg]) (by first | with_reducible rfl | simp only [zl, iz_add, iz_sub, iz_mul, iz_neg]) (by first | with_reducible rfl | simp only [zl, iz_add, iz_sub, iz_mul, iz_neg]) (by first | with_reducible rfl | simp only [zl, iz_add, iz_sub, iz_mul, iz_neg])
    · have hv := hv.2 (fun z9 => c9 (q_15.mpr z9))
      refine lift_X3_arrive (by first | with_reducible rfl | simp only [zl, iz_add, iz_sub, iz_mul, iz_neg]) (by first | with_reducible rfl | simp only [zl, iz_add, iz_sub, iz_mul, iz_neg]) (by first | with_reducible rfl | simp only [zl, iz_add, iz_sub, iz_mul, iz_neg]) hv (fun u_16 y_18 hv eu_20 => ?_)
      subst eu_20
      try dsimp only
      refine lift_X3_leave (by first | with_reducible rfl | simp only [zl, iz_add, iz_sub, iz_mul, iz_neg]) (by first | with_reducible rfl | simp only [zl, iz_add, iz_sub, iz_mul, iz_neg]) (by first | with_reducible rfl | simp only [zl, iz_add, iz_sub, iz_mul, iz_neg]) (by first | with_reducible rfl | simp only [zl, iz_add, iz_sub, iz_mul, iz_neg]) (by first | with_reducible rfl | simp only [zl, iz_add, iz_sub, iz_mul, iz_neg]) (by first | with_reducible rfl | simp only [zl, iz_add, iz_sub, iz_mul, iz_neg]) (by first | with_reducible rfl | simp only [zl, iz_add, iz_sub, iz_mul, iz_neg]) (by first | with_reducible rfl | simp only [zl, iz_add, iz_sub, iz_mul, iz_neg]) (by first | with_reducible rfl | simp only [zl, iz_add, iz_sub, iz_mul, iz_neg]) (by first | with_reducible rfl | simp only [zl, iz_add, iz_sub, iz_mul, iz_neg]) (by first | with_reducible rfl | simp only [zl, iz_add, iz_sub, iz_mul, iz_neg]) (by first | with_reducible rfl | simp only [zl, iz_add, iz_sub, iz_mul, iz_neg]) hv (fun u_21 y_23 hv eu_25 => ?_)
      subst eu_25
      try dsimp only
      intro y_27 hy_27
      obtain ⟨x2_26, hx2_26⟩ : ∃ z : Int, z = v2 + 1 := ⟨_, rfl⟩
      have hv := hv x2_26 hx2_26
      have ey_27 : y_27 = iz x2_26 := by rw [hy_27, hx2_26]; try exact (by first | with_reducible rfl | simp only [zl, iz_add, iz_sub, iz_mul, iz_neg])
      subst ey_27
      exact ih _ _ _ _ _ x2_26 u_21.1 u_21.2.1 u_21.2.2.1 u_21.2.2.2 (by first | with_reducible rfl | simp only [zl, iz_add, iz_sub, iz_mul, iz_neg]) (by first | with_reducible rfl | simp only [zl, iz_add, iz_sub, iz_mul, iz_neg]) (by first | with_reducible rfl | simp only [zl, iz_add, iz_sub, iz_mul, iz_neg]) (by first | with_reducible rfl | simp only [zl, iz_add, iz_sub, iz_mul, iz_neg]) (by first | with_reducible rfl | simp only [zl, iz_add, iz_sub, iz_mul, iz_neg]) hv

def iv_X4_rush (a1 : Int) (q_people : (Nat → Int)) (q_safeRooms : Int) (q_passages : Int) (q_from : (Nat → Int)) (q_to : (Nat → Int)) (q_width : (Nat → Int)) (q_length : (Nat → Int)) (q_shut : (Nat → Int)) (t_here : (Nat → Int)) (t_arriving : (Nat → Int)) (t_distance : (Nat → Int)) (t_firstPassage : (Nat → Int)) (post : Int → ((Nat → Int) × (Nat → Int) × (Nat → Int) × (Nat → Int)) → Prop) : Prop :=
  (iv_X4_isWithin a1 0 200 (fun (r_2 : Int) (u_1 : Unit) => ((sm r_2 ∧ sm 0) ∧ ((¬ r_2 = 0 → (iv_X3_begin t_here t_arriving q_people (fun (u_9 : (Nat → Int) × (Nat → Int)) => (∃ n_43, iv_X4_rush_L27 (fun t_here_28 t_arriving_29 t_distance_30 t_firstPassage_31 => (iv_X3_arrive a1 t_here_28 t_arriving_29 (fun (u_32 : (Nat → Int) × (Nat → Int)) => (iv_X3_peopleIn q_safeRooms u_32.1 (fun (r_38 : Int) (u_37 : Unit) => post r_38 (u_32.1, u_32.2, t_distance_30, t_firstPassage_31))))))  a1 q_safeRooms q_passages q_from q_to q_width q_length q_shut n_43 0 u_9.1 u_9.2 t_distance t_firstPassage)))) ∧ (r_2 = 0 → post (-2) (t_here, t_arriving, t_distance, t_firstPassage))))))

set_option maxHeartbeats 4000000 in
theorem lift_X4_rush {a1' : Int32} {a1 : Int} {q_people' : (Nat → Int32)} {q_people : (Nat → Int)} {q_safeRooms' : Int32} {q_safeRooms : Int} {q_passages' : Int32} {q_passages : Int} {q_from' : (Nat → Int32)} {q_from : (Nat → Int)} {q_to' : (Nat → Int32)} {q_to : (Nat → Int)} {q_width' : (Nat → Int32)} {q_width : (Nat → Int)} {q_length' : (Nat → Int32)} {q_length : (Nat → Int)} {q_shut' : (Nat → Int32)} {q_shut : (Nat → Int)} {t_here' : (Nat → Int32)} {t_here : (Nat → Int)} {t_arriving' : (Nat → Int32)} {t_arriving : (Nat → Int)} {t_distance' : (Nat → Int32)} {t_distance : (Nat → Int)} {t_firstPassage' : (Nat → Int32)} {t_firstPassage : (Nat → Int)} (e_a1 : a1' = iz a1) (e_q_people : q_people' = az q_people) (e_q_safeRooms : q_safeRooms' = iz q_safeRooms) (e_q_passages : q_passages' = iz q_passages) (e_q_from : q_from' = az q_from) (e_q_to : q_to' = az q_to) (e_q_width : q_width' = az q_width) (e_q_length : q_length' = az q_length) (e_q_shut : q_shut' = az q_shut) (e_t_here : t_here' = az t_here) (e_t_arriving : t_arriving' = az t_arriving) (e_t_distance : t_distance' = az t_distance) (e_t_firstPassage : t_firstPassage' = az t_firstPassage) {post0 : Int32 → ((Nat → Int32) × (Nat → Int32) × (Nat → Int32) × (Nat → Int32)) → Prop} {post : Int → ((Nat → Int) × (Nat → Int) × (Nat → Int) × (Nat → Int)) → Prop} (hv : iv_X4_rush a1 q_people q_safeRooms q_passages q_from q_to q_width q_length q_shut t_here t_arriving t_distance t_firstPassage post) (hp : ∀ (r : Int) (u : (Nat → Int) × (Nat → Int) × (Nat → Int) × (Nat → Int)) (x : Int32) (y : (Nat → Int32) × (Nat → Int32) × (Nat → Int32) × (Nat → Int32)), post r u → x = iz r → y = (az u.1, az u.2.1, az u.2.2.1, az u.2.2.2) → post0 x y) : vc_X4_rush a1' q_people' q_safeRooms' q_passages' q_from' q_to' q_width' q_length' q_shut' t_here' t_arriving' t_distance' t_firstPassage' post0 := by
  subst e_a1
  subst e_q_people
  subst e_q_safeRooms
  subst e_q_passages
  subst e_q_from
  subst e_q_to
  subst e_q_width
  subst e_q_length
  subst e_q_shut
  subst e_t_here
  subst e_t_arriving
  subst e_t_distance
  subst e_t_firstPassage
  rw [iv_X4_rush] at hv
  rw [vc_X4_rush]
  refine lift_X4_isWithin (by first | with_reducible rfl | simp only [zl, iz_add, iz_sub, iz_mul, iz_neg]) (by first | with_reducible rfl | simp only [zl, iz_add, iz_sub, iz_mul, iz_neg]) (by first | with_reducible rfl | simp only [zl, iz_add, iz_sub, iz_mul, iz_neg]) hv (fun r_2 u_1 y_3 y_4 hv er_5 eu_6 => ?_)
  subst er_5; subst eu_6
  try dsimp only
  obtain ⟨hs_7, hv⟩ := hv
  have q_8 := z_eq (x := (iz r_2)) (a := r_2) (by first | with_reducible rfl | simp only [zl, iz_add, iz_sub, iz_mul, iz_neg]) (y := 0) (b := 0) (by first | with_reducible rfl | simp only [zl, iz_add, iz_sub, iz_mul, iz_neg]) hs_7.1 hs_7.2
  refine ⟨fun c9 => ?_, fun c9 => ?_⟩
  · have hv := hv.1 (fun z9 => c9 (q_8.mpr z9))
    refine lift_X3_begin (by first | with_reducible rfl | simp only [zl, iz_add, iz_sub, iz_mul, iz_neg]) (by first | with_reducible rfl | simp only [zl, iz_add, iz_sub, iz_mul, iz_neg]) (by first | with_reducible rfl | simp only [zl, iz_add, iz_sub, iz_mul, iz_neg]) hv (fun u_9 y_11 hv eu_13 => ?_)
    subst eu_13
    try dsimp only
    obtain ⟨n_43, hv⟩ := hv
    refine ⟨n_43, lift_X4_rush_L27 (by first | with_reducible rfl | simp only [zl, iz_add, iz_sub, iz_mul, iz_neg]) (by first | with_reducible rfl | simp only [zl, iz_add, iz_sub, iz_mul, iz_neg]) (by first | with_reducible rfl | simp only [zl, iz_add, iz_sub, iz_mul, iz_neg]) (by first | with_reducible rfl | simp only [zl, iz_add, iz_sub, iz_mul, iz_neg]) (by first | with_reducible rfl | simp only [zl, iz_add, iz_sub, iz_mul, iz_neg]) (by first | with_reducible rfl | simp only [zl, iz_add, iz_sub, iz_mul, iz_neg]) (by first | with_reducible rfl | simp only [zl, iz_add, iz_sub, iz_mul, iz_neg]) (by first | with_reducible rfl | simp only [zl, iz_add, iz_sub, iz_mul, iz_neg]) (fun y_44 y_45 y_46 y_47 t_here_28 t_arriving_29 t_distance_30 t_firstPassage_31 hv ey_48 ey_49 ey_50 ey_51 => ?_)  n_43 _ _ _ _ _ 0 u_9.1 u_9.2 t_distance t_firstPassage (by first | with_reducible rfl | simp only [zl, iz_add, iz_sub, iz_mul, iz_neg]) (by first | with_reducible rfl | simp only [zl, iz_add, iz_sub, iz_mul, iz_neg]) (by first | with_reducible rfl | simp only [zl, iz_add, iz_sub, iz_mul, iz_neg]) (by first | with_reducible rfl | simp only [zl, iz_add, iz_sub, iz_mul, iz_neg]) (by first | with_reducible rfl | simp only [zl, iz_add, iz_sub, iz_mul, iz_neg]) hv⟩
    subst ey_48
    subst ey_49
    subst ey_50
    subst ey_51
    refine lift_X3_arrive (by first | with_reducible rfl | simp only [zl, iz_add, iz_sub, iz_mul, iz_neg]) (by first | with_reducible rfl | simp only [zl, iz_add, iz_sub, iz_mul, iz_neg]) (by first | with_reducible rfl | simp only [zl, iz_add, iz_sub, iz_mul, iz_neg]) hv (fun u_32 y_34 hv eu_36 => ?_)
    subst eu_36
    try dsimp only
    refine lift_X3_peopleIn (by first | with_reducible rfl | simp only [zl, iz_add, iz_sub, iz_mul, iz_neg]) (by first | with_reducible rfl | simp only [zl, iz_add, iz_sub, iz_mul, iz_neg]) hv (fun r_38 u_37 y_39 y_40 hv er_41 eu_42 => ?_)
    subst er_41; subst eu_42
    try dsimp only
    exact hp _ _ _ _ hv (by first | with_reducible rfl | simp only [zl, iz_add, iz_sub, iz_mul, iz_neg]) (by first | with_reducible rfl | simp only [zl, iz_add, iz_sub, iz_mul, iz_neg])
  · have hv := hv.2 (q_8.mp c9)
    exact hp _ _ _ _ hv (by first | with_reducible rfl | simp only [zl, iz_add, iz_sub, iz_mul, iz_neg]) (by first | with_reducible rfl | simp only [zl, iz_add, iz_sub, iz_mul, iz_neg])

def iv_X4_rushed_L21 (K : (Nat → Int) → (Nat → Int) → (Nat → Int) → (Nat → Int) → Prop) (post : Int → ((Nat → Int) × (Nat → Int) × (Nat → Int) × (Nat → Int)) → Prop) (b1 : Int) (q_safeRooms : Int) (q_passages : Int) (q_from : (Nat → Int)) (q_to : (Nat → Int)) (q_width : (Nat → Int)) (q_length : (Nat → Int)) (q_shut : (Nat → Int)) : Nat → Int → (Nat → Int) → (Nat → Int) → (Nat → Int) → (Nat → Int) → Prop
  | 0, _, _, _, _, _ => False
  | n + 1, v2, t_here, t_arriving, t_distance, t_firstPassage =>
    ((sm 200 ∧ sm v2) ∧ ((200 < v2 → K t_here t_arriving t_distance t_firstPassage) ∧ (¬ 200 < v2 → (iv_X3_arrive v2 t_here t_arriving (fun (u_14 : (Nat → Int) × (Nat → Int)) => (iv_X3_peopleIn q_safeRooms u_14.1 (fun (r_20 : Int) (u_19 : Unit) => ((sm r_20 ∧ sm b1) ∧ ((¬ r_20 = b1 → (iv_X3_leave v2 u_14.1 u_14.2 t_distance t_firstPassage q_safeRooms q_passages q_from q_to q_width q_length q_shut (fun (u_27 : (Nat → Int) × (Nat → Int) × (Nat → Int) × (Nat → Int)) => (∀ x2_32 : Int, x2_32 = v2 + 1 → iv_X4_rushed_L21 K post b1 q_safeRooms q_passages q_from q_to q_width q_length q_shut n x2_32 u_27.1 u_27.2.1 u_27.2.2.1 u_27.2.2.2)))) ∧ (r_20 = b1 → post v2 (u_14.1, u_14.2, t_distance, t_firstPassage)))))))))))

set_option maxHeartbeats 4000000 in
theorem lift_X4_rushed_L21 {K0 : (Nat → Int32) → (Nat → Int32) → (Nat → Int32) → (Nat → Int32) → Prop} {K : (Nat → Int) → (Nat → Int) → (Nat → Int) → (Nat → Int) → Prop} {post0 : Int32 → ((Nat → Int32) × (Nat → Int32) × (Nat → Int32) × (Nat → Int32)) → Prop} {post : Int → ((Nat → Int) × (Nat → Int) × (Nat → Int) × (Nat → Int)) → Prop} {b1' : Int32} {b1 : Int} {q_safeRooms' : Int32} {q_safeRooms : Int} {q_passages' : Int32} {q_passages : Int} {q_from' : (Nat → Int32)} {q_from : (Nat → Int)} {q_to' : (Nat → Int32)} {q_to : (Nat → Int)} {q_width' : (Nat → Int32)} {q_width : (Nat → Int)} {q_length' : (Nat → Int32)} {q_length : (Nat → Int)} {q_shut' : (Nat → Int32)} {q_shut : (Nat → Int)} (e_b1 : b1' = iz b1) (e_q_safeRooms : q_safeRooms' = iz q_safeRooms) (e_q_passages : q_passages' = iz q_passages) (e_q_from : q_from' = az q_from) (e_q_to : q_to' = az q_to) (e_q_width : q_width' = az q_width) (e_q_length : q_length' = az q_length) (e_q_shut : q_shut' = az q_shut)  (hKx : ∀ (k_t_here' : (Nat → Int32)) (k_t_arriving' : (Nat → Int32)) (k_t_distance' : (Nat → Int32)) (k_t_firstPassage' : (Nat → Int32)) (k_t_here : (Nat → Int)) (k_t_arriving : (Nat → Int)) (k_t_distance : (Nat → Int)) (k_t_firstPassage : (Nat → Int)), K k_t_here k_t_arriving k_t_distance k_t_firstPassage → k_t_here' = az k_t_here → k_t_arriving' = az k_t_arriving → k_t_distance' = az k_t_distance → k_t_firstPassage' = az k_t_firstPassage →  K0 k_t_here' k_t_arriving' k_t_distance' k_t_firstPassage') (hp : ∀ (r : Int) (u : (Nat → Int) × (Nat → Int) × (Nat → Int) × (Nat → Int)) (x : Int32) (y : (Nat → Int32) × (Nat → Int32) × (Nat → Int32) × (Nat → Int32)), post r u → x = iz r → y = (az u.1, az u.2.1, az u.2.2.1, az u.2.2.2) → post0 x y) :
    ∀ (n : Nat) (v2' : Int32) (t_here' : (Nat → Int32)) (t_arriving' : (Nat → Int32)) (t_distance' : (Nat → Int32)) (t_firstPassage' : (Nat → Int32)) (v2 : Int) (t_here : (Nat → Int)) (t_arriving : (Nat → Int)) (t_distance : (Nat → Int)) (t_firstPassage : (Nat → Int)) (e_v2 : v2' = iz v2) (e_t_here : t_here' = az t_here) (e_t_arriving : t_arriving' = az t_arriving) (e_t_distance : t_distance' = az t_distance) (e_t_firstPassage : t_firstPassage' = az t_firstPassage), iv_X4_rushed_L21 K post b1 q_safeRooms q_passages q_from q_to q_width q_length q_shut n v2 t_here t_arriving t_distance t_firstPassage → vc_X4_rushed_L21 K0 post0 b1' q_safeRooms' q_passages' q_from' q_to' q_width' q_length' q_shut' n v2' t_here' t_arriving' t_distance' t_firstPassage' := by
  subst e_b1
  subst e_q_safeRooms
  subst e_q_passages
  subst e_q_from
  subst e_q_to
  subst e_q_width
  subst e_q_length
  subst e_q_shut
  intro n
  induction n with
  | zero =>
    intro v2' t_here' t_arriving' t_distance' t_firstPassage' v2 t_here t_arriving t_distance t_firstPassage e_v2 e_t_here e_t_arriving e_t_distance e_t_firstPassage hv
    exact False.elim hv
  | succ n ih =>
    intro v2' t_here' t_arriving' t_distance' t_firstPassage' v2 t_here t_arriving t_distance t_firstPassage e_v2 e_t_here e_t_arriving e_t_distance e_t_firstPassage hv
    subst e_v2
    subst e_t_here
    subst e_t_arriving
    subst e_t_distance
    subst e_t_firstPassage
    rw [iv_X4_rushed_L21] at hv
    rw [vc_X4_rushed_L21]
    obtain ⟨hs_12, hv⟩ := hv
    have q_13 := z_lt (x := 200) (a := 200) (by first | with_reducible rfl | simp only [zl, iz_add, iz_sub, iz_mul, iz_neg]) (y := (iz v2)) (b := v2) (by first | with_reducible rfl | simp only [zl, iz_add, iz_sub, iz_mul, iz_neg]) hs_12.1 hs_12.2
    refine ⟨fun c9 => ?_, fun c9 => ?_⟩
    · have hv := hv.1 (q_13.mp c9)
      exact hKx _ _ _ _ t_here t_arriving t_distance t_firstPassage hv (by first | with_reducible rfl | simp only [zl, iz_add, iz_sub, iz_mul, iz_neg]) (by first | with_reducible rfl | simp only [zl, iz_add, iz_sub, iz_mul, iz_neg]) (by first | with_reducible rfl | simp only [zl, iz_add, iz_sub, iz_mul, iz_neg]) (by first | with_reducible rfl | simp only [zl, iz_add, iz_sub, iz_mul, iz_neg])
    · have hv := hv.2 (fun z9 => c9 (q_13.mpr z9))
      refine lift_X3_arrive (by first | with_reducible rfl | simp only [zl, iz_add, iz_sub, iz_mul, iz_neg]) (by first | with_reducible rfl | simp only [zl, iz_add, iz_sub, iz_mul, iz_neg]) (by first | with_reducible rfl | simp only [zl, iz_add, iz_sub, iz_mul, iz_neg]) hv (fun u_14 y_16 hv eu_18 => ?_)
      subst eu_18
      try dsimp only
      refine lift_X3_peopleIn (by first | with_reducible rfl | simp only [zl, iz_add, iz_sub, iz_mul, iz_neg]) (by first | with_reducible rfl | simp only [zl, iz_add, iz_sub, iz_mul, iz_neg]) hv (fun r_20 u_19 y_21 y_22 hv er_23 eu_24 => ?_)
      subst er_23; subst eu_24
      try dsimp only
      obtain ⟨hs_25, hv⟩ := hv
      have q_26 := z_eq (x := (iz r_20)) (a := r_20) (by first | with_reducible rfl | simp only [zl, iz_add, iz_sub, iz_mul, iz_neg]) (y := (iz b1)) (b := b1) (by first | with_reducible rfl | simp only [zl, iz_add, iz_sub, iz_mul, iz_neg]) hs_25.1 hs_25.2
      refine ⟨fun c9 => ?_, fun c9 => ?_⟩
      · have hv := hv.1 (fun z9 => c9 (q_26.mpr z9))
        refine lift_X3_leave (by first | with_reducible rfl | simp only [zl, iz_add, iz_sub, iz_mul, iz_neg]) (by first | with_reducible rfl | simp only [zl, iz_add, iz_sub, iz_mul, iz_neg]) (by first | with_reducible rfl | simp only [zl, iz_add, iz_sub, iz_mul, iz_neg]) (by first | with_reducible rfl | simp only [zl, iz_add, iz_sub, iz_mul, iz_neg]) (by first | with_reducible rfl | simp only [zl, iz_add, iz_sub, iz_mul, iz_neg]) (by first | with_reducible rfl | simp only [zl, iz_add, iz_sub, iz_mul, iz_neg]) (by first | with_reducible rfl | simp only [zl, iz_add, iz_sub, iz_mul, iz_neg]) (by first | with_reducible rfl | simp only [zl, iz_add, iz_sub, iz_mul, iz_neg]) (by first | with_reducible rfl | simp only [zl, iz_add, iz_sub, iz_mul, iz_neg]) (by first | with_reducible rfl | simp only [zl, iz_add, iz_sub, iz_mul, iz_neg]) (by first | with_reducible rfl | simp only [zl, iz_add, iz_sub, iz_mul, iz_neg]) (by first | with_reducible rfl | simp only [zl, iz_add, iz_sub, iz_mul, iz_neg]) hv (fun u_27 y_29 hv eu_31 => ?_)
        subst eu_31
        try dsimp only
        intro y_33 hy_33
        obtain ⟨x2_32, hx2_32⟩ : ∃ z : Int, z = v2 + 1 := ⟨_, rfl⟩
        have hv := hv x2_32 hx2_32
        have ey_33 : y_33 = iz x2_32 := by rw [hy_33, hx2_32]; try exact (by first | with_reducible rfl | simp only [zl, iz_add, iz_sub, iz_mul, iz_neg])
        subst ey_33
        exact ih _ _ _ _ _ x2_32 u_27.1 u_27.2.1 u_27.2.2.1 u_27.2.2.2 (by first | with_reducible rfl | simp only [zl, iz_add, iz_sub, iz_mul, iz_neg]) (by first | with_reducible rfl | simp only [zl, iz_add, iz_sub, iz_mul, iz_neg]) (by first | with_reducible rfl | simp only [zl, iz_add, iz_sub, iz_mul, iz_neg]) (by first | with_reducible rfl | simp only [zl, iz_add, iz_sub, iz_mul, iz_neg]) (by first | with_reducible rfl | simp only [zl, iz_add, iz_sub, iz_mul, iz_neg]) hv
      · have hv := hv.2 (q_26.mp c9)
        exact hp _ _ _ _ hv (by first | with_reducible rfl | simp only [zl, iz_add, iz_sub, iz_mul, iz_neg]) (by first | with_reducible rfl | simp only [zl, iz_add, iz_sub, iz_mul, iz_neg])

def iv_X4_rushed (q_people : (Nat → Int)) (q_safeRooms : Int) (q_passages : Int) (q_from : (Nat → Int)) (q_to : (Nat → Int)) (q_width : (Nat → Int)) (q_length : (Nat → Int)) (q_shut : (Nat → Int)) (t_here : (Nat → Int)) (t_arriving : (Nat → Int)) (t_distance : (Nat → Int)) (t_firstPassage : (Nat → Int)) (post : Int → ((Nat → Int) × (Nat → Int) × (Nat → Int) × (Nat → Int)) → Prop) : Prop :=
  (iv_X2_allPeople q_people (fun (r_2 : Int) (u_1 : Unit) => (iv_X3_begin t_here t_arriving q_people (fun (u_7 : (Nat → Int) × (Nat → Int)) => (∃ n_38, iv_X4_rushed_L21 (fun t_here_34 t_arriving_35 t_distance_36 t_firstPassage_37 => post (-6) (t_here_34, t_arriving_35, t_distance_36, t_firstPassage_37)) post r_2 q_safeRooms q_passages q_from q_to q_width q_length q_shut n_38 0 u_7.1 u_7.2 t_distance t_firstPassage)))))

set_option maxHeartbeats 4000000 in
theorem lift_X4_rushed {q_people' : (Nat → Int32)} {q_people : (Nat → Int)} {q_safeRooms' : Int32} {q_safeRooms : Int} {q_passages' : Int32} {q_passages : Int} {q_from' : (Nat → Int32)} {q_from : (Nat → Int)} {q_to' : (Nat → Int32)} {q_to : (Nat → Int)} {q_width' : (Nat → Int32)} {q_width : (Nat → Int)} {q_length' : (Nat → Int32)} {q_length : (Nat → Int)} {q_shut' : (Nat → Int32)} {q_shut : (Nat → Int)} {t_here' : (Nat → Int32)} {t_here : (Nat → Int)} {t_arriving' : (Nat → Int32)} {t_arriving : (Nat → Int)} {t_distance' : (Nat → Int32)} {t_distance : (Nat → Int)} {t_firstPassage' : (Nat → Int32)} {t_firstPassage : (Nat → Int)} (e_q_people : q_people' = az q_people) (e_q_safeRooms : q_safeRooms' = iz q_safeRooms) (e_q_passages : q_passages' = iz q_passages) (e_q_from : q_from' = az q_from) (e_q_to : q_to' = az q_to) (e_q_width : q_width' = az q_width) (e_q_length : q_length' = az q_length) (e_q_shut : q_shut' = az q_shut) (e_t_here : t_here' = az t_here) (e_t_arriving : t_arriving' = az t_arriving) (e_t_distance : t_distance' = az t_distance) (e_t_firstPassage : t_firstPassage' = az t_firstPassage) {post0 : Int32 → ((Nat → Int32) × (Nat → Int32) × (Nat → Int32) × (Nat → Int32)) → Prop} {post : Int → ((Nat → Int) × (Nat → Int) × (Nat → Int) × (Nat → Int)) → Prop} (hv : iv_X4_rushed q_people q_safeRooms q_passages q_from q_to q_width q_length q_shut t_here t_arriving t_distance t_firstPassage post) (hp : ∀ (r : Int) (u : (Nat → Int) × (Nat → Int) × (Nat → Int) × (Nat → Int)) (x : Int32) (y : (Nat → Int32) × (Nat → Int32) × (Nat → Int32) × (Nat → Int32)), post r u → x = iz r → y = (az u.1, az u.2.1, az u.2.2.1, az u.2.2.2) → post0 x y) : vc_X4_rushed q_people' q_safeRooms' q_passages' q_from' q_to' q_width' q_length' q_shut' t_here' t_arriving' t_distance' t_firstPassage' post0 := by
  subst e_q_people
  subst e_q_safeRooms
  subst e_q_passages
  subst e_q_from
  subst e_q_to
  subst e_q_width
  subst e_q_length
  subst e_q_shut
  subst e_t_here
  subst e_t_arriving
  subst e_t_distance
  subst e_t_firstPassage
  rw [iv_X4_rushed] at hv
  rw [vc_X4_rushed]
  refine lift_X2_allPeople (by first | with_reducible rfl | simp only [zl, iz_add, iz_sub, iz_mul, iz_neg]) hv (fun r_2 u_1 y_3 y_4 hv er_5 eu_6 => ?_)
  subst er_5; subst eu_6
  try dsimp only
  refine lift_X3_begin (by first | with_reducible rfl | simp only [zl, iz_add, iz_sub, iz_mul, iz_neg]) (by first | with_reducible rfl | simp only [zl, iz_add, iz_sub, iz_mul, iz_neg]) (by first | with_reducible rfl | simp only [zl, iz_add, iz_sub, iz_mul, iz_neg]) hv (fun u_7 y_9 hv eu_11 => ?_)
  subst eu_11
  try dsimp only
  obtain ⟨n_38, hv⟩ := hv
  refine ⟨n_38, lift_X4_rushed_L21 (by first | with_reducible rfl | simp only [zl, iz_add, iz_sub, iz_mul, iz_neg]) (by first | with_reducible rfl | simp only [zl, iz_add, iz_sub, iz_mul, iz_neg]) (by first | with_reducible rfl | simp only [zl, iz_add, iz_sub, iz_mul, iz_neg]) (by first | with_reducible rfl | simp only [zl, iz_add, iz_sub, iz_mul, iz_neg]) (by first | with_reducible rfl | simp only [zl, iz_add, iz_sub, iz_mul, iz_neg]) (by first | with_reducible rfl | simp only [zl, iz_add, iz_sub, iz_mul, iz_neg]) (by first | with_reducible rfl | simp only [zl, iz_add, iz_sub, iz_mul, iz_neg]) (by first | with_reducible rfl | simp only [zl, iz_add, iz_sub, iz_mul, iz_neg]) (fun y_39 y_40 y_41 y_42 t_here_34 t_arriving_35 t_distance_36 t_firstPassage_37 hv ey_43 ey_44 ey_45 ey_46 => ?_) hp n_38 _ _ _ _ _ 0 u_7.1 u_7.2 t_distance t_firstPassage (by first | with_reducible rfl | simp only [zl, iz_add, iz_sub, iz_mul, iz_neg]) (by first | with_reducible rfl | simp only [zl, iz_add, iz_sub, iz_mul, iz_neg]) (by first | with_reducible rfl | simp only [zl, iz_add, iz_sub, iz_mul, iz_neg]) (by first | with_reducible rfl | simp only [zl, iz_add, iz_sub, iz_mul, iz_neg]) (by first | with_reducible rfl | simp only [zl, iz_add, iz_sub, iz_mul, iz_neg]) hv⟩
  subst ey_43
  subst ey_44
  subst ey_45
  subst ey_46
  exact hp _ _ _ _ hv (by first | with_reducible rfl | simp only [zl, iz_add, iz_sub, iz_mul, iz_neg]) (by first | with_reducible rfl | simp only [zl, iz_add, iz_sub, iz_mul, iz_neg])

def iv_X4_image (a1 : Int) (x_imagesKept : Int) (q_people : (Nat → Int)) (q_area : (Nat → Int)) (q_safeRooms : Int) (q_passages : Int) (q_from : (Nat → Int)) (q_to : (Nat → Int)) (q_width : (Nat → Int)) (q_length : (Nat → Int)) (q_shut : (Nat → Int)) (qa_people : (Nat → Int)) (qa_area : (Nat → Int)) (qa_safeRooms : Int) (qa_passages : Int) (qa_from : (Nat → Int)) (qa_to : (Nat → Int)) (qa_width : (Nat → Int)) (qa_length : (Nat → Int)) (qa_shut : (Nat → Int)) (qb_people : (Nat → Int)) (qb_area : (Nat → Int)) (qb_safeRooms : Int) (qb_passages : Int) (qb_from : (Nat → Int)) (qb_to : (Nat → Int)) (qb_width : (Nat → Int)) (qb_length : (Nat → Int)) (qb_shut : (Nat → Int)) (post : Int → (Int × (Nat → Int) × (Nat → Int) × Int × Int × (Nat → Int) × (Nat → Int) × (Nat → Int) × (Nat → Int) × (Nat → Int) × (Nat → Int) × (Nat → Int) × Int × Int × (Nat → Int) × (Nat → Int) × (Nat → Int) × (Nat → Int) × (Nat → Int)) → Prop) : Prop :=
  (iv_X4_isWithin a1 0 1 (fun (r_2 : Int) (u_1 : Unit) => ((sm r_2 ∧ sm 0) ∧ ((¬ r_2 = 0 → ((sm a1) ∧ ((a1 = 0 → (iv_X2_copy qa_people qa_area qa_safeRooms qa_passages qa_from qa_to qa_width qa_length qa_shut q_people q_area q_safeRooms q_passages q_from q_to q_width q_length q_shut (fun (u_11 : (Nat → Int) × (Nat → Int) × Int × Int × (Nat → Int) × (Nat → Int) × (Nat → Int) × (Nat → Int) × (Nat → Int)) => ((0 ≤ a1 ∧ a1 < 30) ∧ ((zn x_imagesKept ∧ zn (2 ^ (a1).toNat)) ∧ post 1 ((zor x_imagesKept (2 ^ (a1).toNat)), u_11.1, u_11.2.1, u_11.2.2.1, u_11.2.2.2.1, u_11.2.2.2.2.1, u_11.2.2.2.2.2.1, u_11.2.2.2.2.2.2.1, u_11.2.2.2.2.2.2.2.1, u_11.2.2.2.2.2.2.2.2, qb_people, qb_area, qb_safeRooms, qb_passages, qb_from, qb_to, qb_width, qb_length, qb_shut)))))) ∧ (¬ a1 = 0 → (iv_X2_copy qb_people qb_area qb_safeRooms qb_passages qb_from qb_to qb_width qb_length qb_shut q_people q_area q_safeRooms q_passages q_from q_to q_width q_length q_shut (fun (u_20 : (Nat → Int) × (Nat → Int) × Int × Int × (Nat → Int) × (Nat → Int) × (Nat → Int) × (Nat → Int) × (Nat → Int)) => ((0 ≤ a1 ∧ a1 < 30) ∧ ((zn x_imagesKept ∧ zn (2 ^ (a1).toNat)) ∧ post 1 ((zor x_imagesKept (2 ^ (a1).toNat)), qa_people, qa_area, qa_safeRooms, qa_passages, qa_from, qa_to, qa_width, qa_length, qa_shut, u_20.1, u_20.2.1, u_20.2.2.1, u_20.2.2.2.1, u_20.2.2.2.2.1, u_20.2.2.2.2.2.1, u_20.2.2.2.2.2.2.1, u_20.2.2.2.2.2.2.2.1, u_20.2.2.2.2.2.2.2.2))))))))) ∧ (r_2 = 0 → post (-2) (x_imagesKept, qa_people, qa_area, qa_safeRooms, qa_passages, qa_from, qa_to, qa_width, qa_length, qa_shut, qb_people, qb_area, qb_safeRooms, qb_passages, qb_from, qb_to, qb_width, qb_length, qb_shut))))))

set_option maxHeartbeats 4000000 in
theorem lift_X4_image {a1' : Int32} {a1 : Int} {x_imagesKept' : Int32} {x_imagesKept : Int} {q_people' : (Nat → Int32)} {q_people : (Nat → Int)} {q_area' : (Nat → Int32)} {q_area : (Nat → Int)} {q_safeRooms' : Int32} {q_safeRooms : Int} {q_passages' : Int32} {q_passages : Int} {q_from' : (Nat → Int32)} {q_from : (Nat → Int)} {q_to' : (Nat → Int32)} {q_to : (Nat → Int)} {q_width' : (Nat → Int32)} {q_width : (Nat → Int)} {q_length' : (Nat → Int32)} {q_length : (Nat → Int)} {q_shut' : (Nat → Int32)} {q_shut : (Nat → Int)} {qa_people' : (Nat → Int32)} {qa_people : (Nat → Int)} {qa_area' : (Nat → Int32)} {qa_area : (Nat → Int)} {qa_safeRooms' : Int32} {qa_safeRooms : Int} {qa_passages' : Int32} {qa_passages : Int} {qa_from' : (Nat → Int32)} {qa_from : (Nat → Int)} {qa_to' : (Nat → Int32)} {qa_to : (Nat → Int)} {qa_width' : (Nat → Int32)} {qa_width : (Nat → Int)} {qa_length' : (Nat → Int32)} {qa_length : (Nat → Int)} {qa_shut' : (Nat → Int32)} {qa_shut : (Nat → Int)} {qb_people' : (Nat → Int32)} {qb_people : (Nat → Int)} {qb_area' : (Nat → Int32)} {qb_area : (Nat → Int)} {qb_safeRooms' : Int32} {qb_safeRooms : Int} {qb_passages' : Int32} {qb_passages : Int} {qb_from' : (Nat → Int32)} {qb_from : (Nat → Int)} {qb_to' : (Nat → Int32)} {qb_to : (Nat → Int)} {qb_width' : (Nat → Int32)} {qb_width : (Nat → Int)} {qb_length' : (Nat → Int32)} {qb_length : (Nat → Int)} {qb_shut' : (Nat → Int32)} {qb_shut : (Nat → Int)} (e_a1 : a1' = iz a1) (e_x_imagesKept : x_imagesKept' = iz x_imagesKept) (e_q_people : q_people' = az q_people) (e_q_area : q_area' = az q_area) (e_q_safeRooms : q_safeRooms' = iz q_safeRooms) (e_q_passages : q_passages' = iz q_passages) (e_q_from : q_from' = az q_from) (e_q_to : q_to' = az q_to) (e_q_width : q_width' = az q_width) (e_q_length : q_length' = az q_length) (e_q_shut : q_shut' = az q_shut) (e_qa_people : qa_people' = az qa_people) (e_qa_area : qa_area' = az qa_area) (e_qa_safeRooms : qa_safeRooms' = iz qa_safeRooms) (e_qa_passages : qa_passages' = iz qa_passages) (e_qa_from : qa_from' = az qa_from) (e_qa_to : qa_to' = az qa_to) (e_qa_width : qa_width' = az qa_width) (e_qa_length : qa_length' = az qa_length) (e_qa_shut : qa_shut' = az qa_shut) (e_qb_people : qb_people' = az qb_people) (e_qb_area : qb_area' = az qb_area) (e_qb_safeRooms : qb_safeRooms' = iz qb_safeRooms) (e_qb_passages : qb_passages' = iz qb_passages) (e_qb_from : qb_from' = az qb_from) (e_qb_to : qb_to' = az qb_to) (e_qb_width : qb_width' = az qb_width) (e_qb_length : qb_length' = az qb_length) (e_qb_shut : qb_shut' = az qb_shut) {post0 : Int32 → (Int32 × (Nat → Int32) × (Nat → Int32) × Int32 × Int32 × (Nat → Int32) × (Nat → Int32) × (Nat → Int32) × (Nat → Int32) × (Nat → Int32) × (Nat → Int32) × (Nat → Int32) × Int32 × Int32 × (Nat → Int32) × (Nat → Int32) × (Nat → Int32) × (Nat → Int32) × (Nat → Int32)) → Prop} {post : Int → (Int × (Nat → Int) × (Nat → Int) × Int × Int × (Nat → Int) × (Nat → Int) × (Nat → Int) × (Nat → Int) × (Nat → Int) × (Nat → Int) × (Nat → Int) × Int × Int × (Nat → Int) × (Nat → Int) × (Nat → Int) × (Nat → Int) × (Nat → Int)) → Prop} (hv : iv_X4_image a1 x_imagesKept q_people q_area q_safeRooms q_passages q_from q_to q_width q_length q_shut qa_people qa_area qa_safeRooms qa_passages qa_from qa_to qa_width qa_length qa_shut qb_people qb_area qb_safeRooms qb_passages qb_from qb_to qb_width qb_length qb_shut post) (hp : ∀ (r : Int) (u : Int × (Nat → Int) × (Nat → Int) × Int × Int × (Nat → Int) × (Nat → Int) × (Nat → Int) × (Nat → Int) × (Nat → Int) × (Nat → Int) × (Nat → Int) × Int × Int × (Nat → Int) × (Nat → Int) × (Nat → Int) × (Nat → Int) × (Nat → Int)) (x : Int32) (y : Int32 × (Nat → Int32) × (Nat → Int32) × Int32 × Int32 × (Nat → Int32) × (Nat → Int32) × (Nat → Int32) × (Nat → Int32) × (Nat → Int32) × (Nat → Int32) × (Nat → Int32) × Int32 × Int32 × (Nat → Int32) × (Nat → Int32) × (Nat → Int32) × (Nat → Int32) × (Nat → Int32)), post r u → x = iz r → y = (iz u.1, az u.2.1, az u.2.2.1, iz u.2.2.2.1, iz u.2.2.2.2.1, az u.2.2.2.2.2.1, az u.2.2.2.2.2.2.1, az u.2.2.2.2.2.2.2.1, az u.2.2.2.2.2.2.2.2.1, az u.2.2.2.2.2.2.2.2.2.1, az u.2.2.2.2.2.2.2.2.2.2.1, az u.2.2.2.2.2.2.2.2.2.2.2.1, iz u.2.2.2.2.2.2.2.2.2.2.2.2.1, iz u.2.2.2.2.2.2.2.2.2.2.2.2.2.1, az u.2.2.2.2.2.2.2.2.2.2.2.2.2.2.1, az u.2.2.2.2.2.2.2.2.2.2.2.2.2.2.2.1, az u.2.2.2.2.2.2.2.2.2.2.2.2.2.2.2.2.1, az u.2.2.2.2.2.2.2.2.2.2.2.2.2.2.2.2.2.1, az u.2.2.2.2.2.2.2.2.2.2.2.2.2.2.2.2.2.2) → post0 x y) : vc_X4_image a1' x_imagesKept' q_people' q_area' q_safeRooms' q_passages' q_from' q_to' q_width' q_length' q_shut' qa_people' qa_area' qa_safeRooms' qa_passages' qa_from' qa_to' qa_width' qa_length' qa_shut' qb_people' qb_area' qb_safeRooms' qb_passages' qb_from' qb_to' qb_width' qb_length' qb_shut' post0 := by
  subst e_a1
  subst e_x_imagesKept
  subst e_q_people
  subst e_q_area
  subst e_q_safeRooms
  subst e_q_passages
  subst e_q_from
  subst e_q_to
  subst e_q_width
  subst e_q_length
  subst e_q_shut
  subst e_qa_people
  subst e_qa_area
  subst e_qa_safeRooms
  subst e_qa_passages
  subst e_qa_from
  subst e_qa_to
  subst e_qa_width
  subst e_qa_length
  subst e_qa_shut
  subst e_qb_people
  subst e_qb_area
  subst e_qb_safeRooms
  subst e_qb_passages
  subst e_qb_from
  subst e_qb_to
  subst e_qb_width
  subst e_qb_length
  subst e_qb_shut
  rw [iv_X4_image] at hv
  rw [vc_X4_image]
  refine lift_X4_isWithin (by first | with_reducible rfl | simp only [zl, iz_add, iz_sub, iz_mul, iz_neg]) (by first | with_reducible rfl | simp only [zl, iz_add, iz_sub, iz_mul, iz_neg]) (by first | with_reducible rfl | simp only [zl, iz_add, iz_sub, iz_mul, iz_neg]) hv (fun r_2 u_1 y_3 y_4 hv er_5 eu_6 => ?_)
  subst er_5; subst eu_6
  try dsimp only
  obtain ⟨hs_7, hv⟩ := hv
  have q_8 := z_eq (x := (iz r_2)) (a := r_2) (by first | with_reducible rfl | simp only [zl, iz_add, iz_sub, iz_mul, iz_neg]) (y := 0) (b := 0) (by first | with_reducible rfl | simp only [zl, iz_add, iz_sub, iz_mul, iz_neg]) hs_7.1 hs_7.2
  refine ⟨fun c9 => ?_, fun c9 => ?_⟩
  · have hv := hv.1 (fun z9 => c9 (q_8.mpr z9))
    obtain ⟨hc_9, hv⟩ := hv
    have q_10 := z_eq (x := (iz a1)) (y := 0) (a := a1) (b := 0) (by first | with_reducible rfl | simp only [zl, iz_add, iz_sub, iz_mul, iz_neg]) rfl hc_9 (by unfold sm; omega)
    refine ⟨fun c9 => ?_, fun c9 => ?_⟩
    · have hv := hv.1 (q_10.mp c9)
      refine lift_X2_copy (by first | with_reducible rfl | simp only [zl, iz_add, iz_sub, iz_mul, iz_neg]) (by first | with_reducible rfl | simp only [zl, iz_add, iz_sub, iz_mul, iz_neg]) (by first | with_reducible rfl | simp only [zl, iz_add, iz_sub, iz_mul, iz_neg]) (by first | with_reducible rfl | simp only [zl, iz_add, iz_sub, iz_mul, iz_neg]) (by first | with_reducible rfl | simp only [zl, iz_add, iz_sub, iz_mul, iz_neg]) (by first | with_reducible rfl | simp only [zl, iz_add, iz_sub, iz_mul, iz_neg]) (by first | with_reducible rfl | simp only [zl, iz_add, iz_sub, iz_mul, iz_neg]) (by first | with_reducible rfl | simp only [zl, iz_add, iz_sub, iz_mul, iz_neg]) (by first | with_reducible rfl | simp only [zl, iz_add, iz_sub, iz_mul, iz_neg]) (by first | with_reducible rfl | simp only [zl, iz_add, iz_sub, iz_mul, iz_neg]) (by first | with_reducible rfl | simp only [zl, iz_add, iz_sub, iz_mul, iz_neg]) (by first | with_reducible rfl | simp only [zl, iz_add, iz_sub, iz_mul, iz_neg]) (by first | with_reducible rfl | simp only [zl, iz_add, iz_sub, iz_mul, iz_neg]) (by first | with_reducible rfl | simp only [zl, iz_add, iz_sub, iz_mul, iz_neg]) (by first | with_reducible rfl | simp only [zl, iz_add, iz_sub, iz_mul, iz_neg]) (by first | with_reducible rfl | simp only [zl, iz_add, iz_sub, iz_mul, iz_neg]) (by first | with_reducible rfl | simp only [zl, iz_add, iz_sub, iz_mul, iz_neg]) (by first | with_reducible rfl | simp only [zl, iz_add, iz_sub, iz_mul, iz_neg]) hv (fun u_11 y_13 hv eu_15 => ?_)
      subst eu_15
      try dsimp only
      obtain ⟨hc_16, hv⟩ := hv
      have e_17 : (1 <<< ((iz a1) &&& 31)) = iz (2 ^ (a1).toNat) := z_shl (by first | with_reducible rfl | simp only [zl, iz_add, iz_sub, iz_mul, iz_neg]) hc_16
      try rw [e_17]
      obtain ⟨hc_18, hv⟩ := hv
      have e_19 : ((iz x_imagesKept) ||| (iz (2 ^ (a1).toNat))) = iz (zor x_imagesKept (2 ^ (a1).toNat)) := z_or (by first | with_reducible rfl | simp only [zl, iz_add, iz_sub, iz_mul, iz_neg]) (by first | with_reducible rfl | simp only [zl, iz_add, iz_sub, iz_mul, iz_neg]) hc_18.1 hc_18.2
      try rw [e_19]
      exact hp _ _ _ _ hv (by first | with_reducible rfl | simp only [zl, iz_add, iz_sub, iz_mul, iz_neg]) (by first | with_reducible rfl | simp only [zl, iz_add, iz_sub, iz_mul, iz_neg])
    · have hv := hv.2 (fun z9 => c9 (q_10.mpr z9))
      refine lift_X2_copy (by first | with_reducible rfl | simp only [zl, iz_add, iz_sub, iz_mul, iz_neg]) (by first | with_reducible rfl | simp only [zl, iz_add, iz_sub, iz_mul, iz_neg]) (by first | with_reducible rfl | simp only [zl, iz_add, iz_sub, iz_mul, iz_neg]) (by first | with_reducible rfl | simp only [zl, iz_add, iz_sub, iz_mul, iz_neg]) (by first | with_reducible rfl | simp only [zl, iz_add, iz_sub, iz_mul, iz_neg]) (by first | with_reducible rfl | simp only [zl, iz_add, iz_sub, iz_mul, iz_neg]) (by first | with_reducible rfl | simp only [zl, iz_add, iz_sub, iz_mul, iz_neg]) (by first | with_reducible rfl | simp only [zl, iz_add, iz_sub, iz_mul, iz_neg]) (by first | with_reducible rfl | simp only [zl, iz_add, iz_sub, iz_mul, iz_neg]) (by first | with_reducible rfl | simp only [zl, iz_add, iz_sub, iz_mul, iz_neg]) (by first | with_reducible rfl | simp only [zl, iz_add, iz_sub, iz_mul, iz_neg]) (by first | with_reducible rfl | simp only [zl, iz_add, iz_sub, iz_mul, iz_neg]) (by first | with_reducible rfl | simp only [zl, iz_add, iz_sub, iz_mul, iz_neg]) (by first | with_reducible rfl | simp only [zl, iz_add, iz_sub, iz_mul, iz_neg]) (by first | with_reducible rfl | simp only [zl, iz_add, iz_sub, iz_mul, iz_neg]) (by first | with_reducible rfl | simp only [zl, iz_add, iz_sub, iz_mul, iz_neg]) (by first | with_reducible rfl | simp only [zl, iz_add, iz_sub, iz_mul, iz_neg]) (by first | with_reducible rfl | simp only [zl, iz_add, iz_sub, iz_mul, iz_neg]) hv (fun u_20 y_22 hv eu_24 => ?_)
      subst eu_24
      try dsimp only
      obtain ⟨hc_25, hv⟩ := hv
      have e_26 : (1 <<< ((iz a1) &&& 31)) = iz (2 ^ (a1).toNat) := z_shl (by first | with_reducible rfl | simp only [zl, iz_add, iz_sub, iz_mul, iz_neg]) hc_25
      try rw [e_26]
      obtain ⟨hc_27, hv⟩ := hv
      have e_28 : ((iz x_imagesKept) ||| (iz (2 ^ (a1).toNat))) = iz (zor x_imagesKept (2 ^ (a1).toNat)) := z_or (by first | with_reducible rfl | simp only [zl, iz_add, iz_sub, iz_mul, iz_neg]) (by first | with_reducible rfl | simp only [zl, iz_add, iz_sub, iz_mul, iz_neg]) hc_27.1 hc_27.2
      try rw [e_28]
      exact hp _ _ _ _ hv (by first | with_reducible rfl | simp only [zl, iz_add, iz_sub, iz_mul, iz_neg]) (by first | with_reducible rfl | simp only [zl, iz_add, iz_sub, iz_mul, iz_neg])
  · have hv := hv.2 (q_8.mp c9)
    exact hp _ _ _ _ hv (by first | with_reducible rfl | simp only [zl, iz_add, iz_sub, iz_mul, iz_neg]) (by first | with_reducible rfl | simp only [zl, iz_add, iz_sub, iz_mul, iz_neg])

def iv_X4_restore (a1 : Int) (x_imagesKept : Int) (q_people : (Nat → Int)) (q_area : (Nat → Int)) (q_safeRooms : Int) (q_passages : Int) (q_from : (Nat → Int)) (q_to : (Nat → Int)) (q_width : (Nat → Int)) (q_length : (Nat → Int)) (q_shut : (Nat → Int)) (qa_people : (Nat → Int)) (qa_area : (Nat → Int)) (qa_safeRooms : Int) (qa_passages : Int) (qa_from : (Nat → Int)) (qa_to : (Nat → Int)) (qa_width : (Nat → Int)) (qa_length : (Nat → Int)) (qa_shut : (Nat → Int)) (qb_people : (Nat → Int)) (qb_area : (Nat → Int)) (qb_safeRooms : Int) (qb_passages : Int) (qb_from : (Nat → Int)) (qb_to : (Nat → Int)) (qb_width : (Nat → Int)) (qb_length : (Nat → Int)) (qb_shut : (Nat → Int)) (post : Int → ((Nat → Int) × (Nat → Int) × Int × Int × (Nat → Int) × (Nat → Int) × (Nat → Int) × (Nat → Int) × (Nat → Int)) → Prop) : Prop :=
  (iv_X4_isWithin a1 0 1 (fun (r_2 : Int) (u_1 : Unit) => ((sm r_2 ∧ sm 0) ∧ ((¬ r_2 = 0 → (iv_X4_isIn x_imagesKept a1 (fun (r_10 : Int) (u_9 : Unit) => ((sm r_10 ∧ sm 0) ∧ ((¬ r_10 = 0 → ((sm a1) ∧ ((a1 = 0 → (iv_X2_copy q_people q_area q_safeRooms q_passages q_from q_to q_width q_length q_shut qa_people qa_area qa_safeRooms qa_passages qa_from qa_to qa_width qa_length qa_shut (fun (u_19 : (Nat → Int) × (Nat → Int) × Int × Int × (Nat → Int) × (Nat → Int) × (Nat → Int) × (Nat → Int) × (Nat → Int)) => post 1 (u_19.1, u_19.2.1, u_19.2.2.1, u_19.2.2.2.1, u_19.2.2.2.2.1, u_19.2.2.2.2.2.1, u_19.2.2.2.2.2.2.1, u_19.2.2.2.2.2.2.2.1, u_19.2.2.2.2.2.2.2.2)))) ∧ (¬ a1 = 0 → (iv_X2_copy q_people q_area q_safeRooms q_passages q_from q_to q_width q_length q_shut qb_people qb_area qb_safeRooms qb_passages qb_from qb_to qb_width qb_length qb_shut (fun (u_24 : (Nat → Int) × (Nat → Int) × Int × Int × (Nat → Int) × (Nat → Int) × (Nat → Int) × (Nat → Int) × (Nat → Int)) => post 1 (u_24.1, u_24.2.1, u_24.2.2.1, u_24.2.2.2.1, u_24.2.2.2.2.1, u_24.2.2.2.2.2.1, u_24.2.2.2.2.2.2.1, u_24.2.2.2.2.2.2.2.1, u_24.2.2.2.2.2.2.2.2))))))) ∧ (r_10 = 0 → post (-3) (q_people, q_area, q_safeRooms, q_passages, q_from, q_to, q_width, q_length, q_shut))))))) ∧ (r_2 = 0 → post (-2) (q_people, q_area, q_safeRooms, q_passages, q_from, q_to, q_width, q_length, q_shut))))))

set_option maxHeartbeats 4000000 in
theorem lift_X4_restore {a1' : Int32} {a1 : Int} {x_imagesKept' : Int32} {x_imagesKept : Int} {q_people' : (Nat → Int32)} {q_people : (Nat → Int)} {q_area' : (Nat → Int32)} {q_area : (Nat → Int)} {q_safeRooms' : Int32} {q_safeRooms : Int} {q_passages' : Int32} {q_passages : Int} {q_from' : (Nat → Int32)} {q_from : (Nat → Int)} {q_to' : (Nat → Int32)} {q_to : (Nat → Int)} {q_width' : (Nat → Int32)} {q_width : (Nat → Int)} {q_length' : (Nat → Int32)} {q_length : (Nat → Int)} {q_shut' : (Nat → Int32)} {q_shut : (Nat → Int)} {qa_people' : (Nat → Int32)} {qa_people : (Nat → Int)} {qa_area' : (Nat → Int32)} {qa_area : (Nat → Int)} {qa_safeRooms' : Int32} {qa_safeRooms : Int} {qa_passages' : Int32} {qa_passages : Int} {qa_from' : (Nat → Int32)} {qa_from : (Nat → Int)} {qa_to' : (Nat → Int32)} {qa_to : (Nat → Int)} {qa_width' : (Nat → Int32)} {qa_width : (Nat → Int)} {qa_length' : (Nat → Int32)} {qa_length : (Nat → Int)} {qa_shut' : (Nat → Int32)} {qa_shut : (Nat → Int)} {qb_people' : (Nat → Int32)} {qb_people : (Nat → Int)} {qb_area' : (Nat → Int32)} {qb_area : (Nat → Int)} {qb_safeRooms' : Int32} {qb_safeRooms : Int} {qb_passages' : Int32} {qb_passages : Int} {qb_from' : (Nat → Int32)} {qb_from : (Nat → Int)} {qb_to' : (Nat → Int32)} {qb_to : (Nat → Int)} {qb_width' : (Nat → Int32)} {qb_width : (Nat → Int)} {qb_length' : (Nat → Int32)} {qb_length : (Nat → Int)} {qb_shut' : (Nat → Int32)} {qb_shut : (Nat → Int)} (e_a1 : a1' = iz a1) (e_x_imagesKept : x_imagesKept' = iz x_imagesKept) (e_q_people : q_people' = az q_people) (e_q_area : q_area' = az q_area) (e_q_safeRooms : q_safeRooms' = iz q_safeRooms) (e_q_passages : q_passages' = iz q_passages) (e_q_from : q_from' = az q_from) (e_q_to : q_to' = az q_to) (e_q_width : q_width' = az q_width) (e_q_length : q_length' = az q_length) (e_q_shut : q_shut' = az q_shut) (e_qa_people : qa_people' = az qa_people) (e_qa_area : qa_area' = az qa_area) (e_qa_safeRooms : qa_safeRooms' = iz qa_safeRooms) (e_qa_passages : qa_passages' = iz qa_passages) (e_qa_from : qa_from' = az qa_from) (e_qa_to : qa_to' = az qa_to) (e_qa_width : qa_width' = az qa_width) (e_qa_length : qa_length' = az qa_length) (e_qa_shut : qa_shut' = az qa_shut) (e_qb_people : qb_people' = az qb_people) (e_qb_area : qb_area' = az qb_area) (e_qb_safeRooms : qb_safeRooms' = iz qb_safeRooms) (e_qb_passages : qb_passages' = iz qb_passages) (e_qb_from : qb_from' = az qb_from) (e_qb_to : qb_to' = az qb_to) (e_qb_width : qb_width' = az qb_width) (e_qb_length : qb_length' = az qb_length) (e_qb_shut : qb_shut' = az qb_shut) {post0 : Int32 → ((Nat → Int32) × (Nat → Int32) × Int32 × Int32 × (Nat → Int32) × (Nat → Int32) × (Nat → Int32) × (Nat → Int32) × (Nat → Int32)) → Prop} {post : Int → ((Nat → Int) × (Nat → Int) × Int × Int × (Nat → Int) × (Nat → Int) × (Nat → Int) × (Nat → Int) × (Nat → Int)) → Prop} (hv : iv_X4_restore a1 x_imagesKept q_people q_area q_safeRooms q_passages q_from q_to q_width q_length q_shut qa_people qa_area qa_safeRooms qa_passages qa_from qa_to qa_width qa_length qa_shut qb_people qb_area qb_safeRooms qb_passages qb_from qb_to qb_width qb_length qb_shut post) (hp : ∀ (r : Int) (u : (Nat → Int) × (Nat → Int) × Int × Int × (Nat → Int) × (Nat → Int) × (Nat → Int) × (Nat → Int) × (Nat → Int)) (x : Int32) (y : (Nat → Int32) × (Nat → Int32) × Int32 × Int32 × (Nat → Int32) × (Nat → Int32) × (Nat → Int32) × (Nat → Int32) × (Nat → Int32)), post r u → x = iz r → y = (az u.1, az u.2.1, iz u.2.2.1, iz u.2.2.2.1, az u.2.2.2.2.1, az u.2.2.2.2.2.1, az u.2.2.2.2.2.2.1, az u.2.2.2.2.2.2.2.1, az u.2.2.2.2.2.2.2.2) → post0 x y) : vc_X4_restore a1' x_imagesKept' q_people' q_area' q_safeRooms' q_passages' q_from' q_to' q_width' q_length' q_shut' qa_people' qa_area' qa_safeRooms' qa_passages' qa_from' qa_to' qa_width' qa_length' qa_shut' qb_people' qb_area' qb_safeRooms' qb_passages' qb_from' qb_to' qb_width' qb_length' qb_shut' post0 := by
  subst e_a1
  subst e_x_imagesKept
  subst e_q_people
  subst e_q_area
  subst e_q_safeRooms
  subst e_q_passages
  subst e_q_from
  subst e_q_to
  subst e_q_width
  subst e_q_length
  subst e_q_shut
  subst e_qa_people
  subst e_qa_area
  subst e_qa_safeRooms
  subst e_qa_passages
  subst e_qa_from
  subst e_qa_to
  subst e_qa_width
  subst e_qa_length
  subst e_qa_shut
  subst e_qb_people
  subst e_qb_area
  subst e_qb_safeRooms
  subst e_qb_passages
  subst e_qb_from
  subst e_qb_to
  subst e_qb_width
  subst e_qb_length
  subst e_qb_shut
  rw [iv_X4_restore] at hv
  rw [vc_X4_restore]
  refine lift_X4_isWithin (by first | with_reducible rfl | simp only [zl, iz_add, iz_sub, iz_mul, iz_neg]) (by first | with_reducible rfl | simp only [zl, iz_add, iz_sub, iz_mul, iz_neg]) (by first | with_reducible rfl | simp only [zl, iz_add, iz_sub, iz_mul, iz_neg]) hv (fun r_2 u_1 y_3 y_4 hv er_5 eu_6 => ?_)
  subst er_5; subst eu_6
  try dsimp only
  obtain ⟨hs_7, hv⟩ := hv
  have q_8 := z_eq (x := (iz r_2)) (a := r_2) (by first | with_reducible rfl | simp only [zl, iz_add, iz_sub, iz_mul, iz_neg]) (y := 0) (b := 0) (by first | with_reducible rfl | simp only [zl, iz_add, iz_sub, iz_mul, iz_neg]) hs_7.1 hs_7.2
  refine ⟨fun c9 => ?_, fun c9 => ?_⟩
  · have hv := hv.1 (fun z9 => c9 (q_8.mpr z9))
    refine lift_X4_isIn (by first | with_reducible rfl | simp only [zl, iz_add, iz_sub, iz_mul, iz_neg]) (by first | with_reducible rfl | simp only [zl, iz_add, iz_sub, iz_mul, iz_neg]) hv (fun r_10 u_9 y_11 y_12 hv er_13 eu_14 => ?_)
    subst er_13; subst eu_14
    try dsimp only
    obtain ⟨hs_15, hv⟩ := hv
    have q_16 := z_eq (x := (iz r_10)) (a := r_10) (by first | with_reducible rfl | simp only [zl, iz_add, iz_sub, iz_mul, iz_neg]) (y := 0) (b := 0) (by first | with_reducible rfl | simp only [zl, iz_add, iz_sub, iz_mul, iz_neg]) hs_15.1 hs_15.2
    refine ⟨fun c9 => ?_, fun c9 => ?_⟩
    · have hv := hv.1 (fun z9 => c9 (q_16.mpr z9))
      obtain ⟨hc_17, hv⟩ := hv
      have q_18 := z_eq (x := (iz a1)) (y := 0) (a := a1) (b := 0) (by first | with_reducible rfl | simp only [zl, iz_add, iz_sub, iz_mul, iz_neg]) rfl hc_17 (by unfold sm; omega)
      refine ⟨fun c9 => ?_, fun c9 => ?_⟩
      · have hv := hv.1 (q_18.mp c9)
        refine lift_X2_copy (by first | with_reducible rfl | simp only [zl, iz_add, iz_sub, iz_mul, iz_neg]) (by first | with_reducible rfl | simp only [zl, iz_add, iz_sub, iz_mul, iz_neg]) (by first | with_reducible rfl | simp only [zl, iz_add, iz_sub, iz_mul, iz_neg]) (by first | with_reducible rfl | simp only [zl, iz_add, iz_sub, iz_mul, iz_neg]) (by first | with_reducible rfl | simp only [zl, iz_add, iz_sub, iz_mul, iz_neg]) (by first | with_reducible rfl | simp only [zl, iz_add, iz_sub, iz_mul, iz_neg]) (by first | with_reducible rfl | simp only [zl, iz_add, iz_sub, iz_mul, iz_neg]) (by first | with_reducible rfl | simp only [zl, iz_add, iz_sub, iz_mul, iz_neg]) (by first | with_reducible rfl | simp only [zl, iz_add, iz_sub, iz_mul, iz_neg]) (by first | with_reducible rfl | simp only [zl, iz_add, iz_sub, iz_mul, iz_neg]) (by first | with_reducible rfl | simp only [zl, iz_add, iz_sub, iz_mul, iz_neg]) (by first | with_reducible rfl | simp only [zl, iz_add, iz_sub, iz_mul, iz_neg]) (by first | with_reducible rfl | simp only [zl, iz_add, iz_sub, iz_mul, iz_neg]) (by first | with_reducible rfl | simp only [zl, iz_add, iz_sub, iz_mul, iz_neg]) (by first | with_reducible rfl | simp only [zl, iz_add, iz_sub, iz_mul, iz_neg]) (by first | with_reducible rfl | simp only [zl, iz_add, iz_sub, iz_mul, iz_neg]) (by first | with_reducible rfl | simp only [zl, iz_add, iz_sub, iz_mul, iz_neg]) (by first | with_reducible rfl | simp only [zl, iz_add, iz_sub, iz_mul, iz_neg]) hv (fun u_19 y_21 hv eu_23 => ?_)
        subst eu_23
        try dsimp only
        exact hp _ _ _ _ hv (by first | with_reducible rfl | simp only [zl, iz_add, iz_sub, iz_mul, iz_neg]) (by first | with_reducible rfl | simp only [zl, iz_add, iz_sub, iz_mul, iz_neg])
      · have hv := hv.2 (fun z9 => c9 (q_18.mpr z9))
        refine lift_X2_copy (by first | with_reducible rfl | simp only [zl, iz_add, iz_sub, iz_mul, iz_neg]) (by first | with_reducible rfl | simp only [zl, iz_add, iz_sub, iz_mul, iz_neg]) (by first | with_reducible rfl | simp only [zl, iz_add, iz_sub, iz_mul, iz_neg]) (by first | with_reducible rfl | simp only [zl, iz_add, iz_sub, iz_mul, iz_neg]) (by first | with_reducible rfl | simp only [zl, iz_add, iz_sub, iz_mul, iz_neg]) (by first | with_reducible rfl | simp only [zl, iz_add, iz_sub, iz_mul, iz_neg]) (by first | with_reducible rfl | simp only [zl, iz_add, iz_sub, iz_mul, iz_neg]) (by first | with_reducible rfl | simp only [zl, iz_add, iz_sub, iz_mul, iz_neg]) (by first | with_reducible rfl | simp only [zl, iz_add, iz_sub, iz_mul, iz_neg]) (by first | with_reducible rfl | simp only [zl, iz_add, iz_sub, iz_mul, iz_neg]) (by first | with_reducible rfl | simp only [zl, iz_add, iz_sub, iz_mul, iz_neg]) (by first | with_reducible rfl | simp only [zl, iz_add, iz_sub, iz_mul, iz_neg]) (by first | with_reducible rfl | simp only [zl, iz_add, iz_sub, iz_mul, iz_neg]) (by first | with_reducible rfl | simp only [zl, iz_add, iz_sub, iz_mul, iz_neg]) (by first | with_reducible rfl | simp only [zl, iz_add, iz_sub, iz_mul, iz_neg]) (by first | with_reducible rfl | simp only [zl, iz_add, iz_sub, iz_mul, iz_neg]) (by first | with_reducible rfl | simp only [zl, iz_add, iz_sub, iz_mul, iz_neg]) (by first | with_reducible rfl | simp only [zl, iz_add, iz_sub, iz_mul, iz_neg]) hv (fun u_24 y_26 hv eu_28 => ?_)
        subst eu_28
        try dsimp only
        exact hp _ _ _ _ hv (by first | with_reducible rfl | simp only [zl, iz_add, iz_sub, iz_mul, iz_neg]) (by first | with_reducible rfl | simp only [zl, iz_add, iz_sub, iz_mul, iz_neg])
    · have hv := hv.2 (q_16.mp c9)
      exact hp _ _ _ _ hv (by first | with_reducible rfl | simp only [zl, iz_add, iz_sub, iz_mul, iz_neg]) (by first | with_reducible rfl | simp only [zl, iz_add, iz_sub, iz_mul, iz_neg])
  · have hv := hv.2 (q_8.mp c9)
    exact hp _ _ _ _ hv (by first | with_reducible rfl | simp only [zl, iz_add, iz_sub, iz_mul, iz_neg]) (by first | with_reducible rfl | simp only [zl, iz_add, iz_sub, iz_mul, iz_neg])

def iv_X4_count (a1 : Int) (x_imagesKept : Int) (q_people : (Nat → Int)) (q_safeRooms : Int) (q_passages : Int) (q_shut : (Nat → Int)) (d_size : Int) (post : Int → Unit → Prop) : Prop :=
  ((sm a1) ∧ ((a1 = 0 → (iv_X2_allPeople q_people (fun (r_3 : Int) (u_2 : Unit) => post r_3 ()))) ∧ (a1 = 1 → post q_passages ()) ∧ (a1 = 2 → post d_size ()) ∧ (a1 = 3 → (iv_X2_passagesEverShut q_passages q_shut (fun (r_9 : Int) (u_8 : Unit) => post r_9 ()))) ∧ (a1 = 4 → post q_safeRooms ()) ∧ (a1 = 5 → post x_imagesKept ()) ∧ (¬ a1 = 0 ∧ ¬ a1 = 1 ∧ ¬ a1 = 2 ∧ ¬ a1 = 3 ∧ ¬ a1 = 4 ∧ ¬ a1 = 5 → post (-2) ())))

set_option maxHeartbeats 4000000 in
theorem lift_X4_count {a1' : Int32} {a1 : Int} {x_imagesKept' : Int32} {x_imagesKept : Int} {q_people' : (Nat → Int32)} {q_people : (Nat → Int)} {q_safeRooms' : Int32} {q_safeRooms : Int} {q_passages' : Int32} {q_passages : Int} {q_shut' : (Nat → Int32)} {q_shut : (Nat → Int)} {d_size' : Int32} {d_size : Int} (e_a1 : a1' = iz a1) (e_x_imagesKept : x_imagesKept' = iz x_imagesKept) (e_q_people : q_people' = az q_people) (e_q_safeRooms : q_safeRooms' = iz q_safeRooms) (e_q_passages : q_passages' = iz q_passages) (e_q_shut : q_shut' = az q_shut) (e_d_size : d_size' = iz d_size) {post0 : Int32 → Unit → Prop} {post : Int → Unit → Prop} (hv : iv_X4_count a1 x_imagesKept q_people q_safeRooms q_passages q_shut d_size post) (hp : ∀ (r : Int) (u : Unit) (x : Int32) (y : Unit), post r u → x = iz r → y = () → post0 x y) : vc_X4_count a1' x_imagesKept' q_people' q_safeRooms' q_passages' q_shut' d_size' post0 := by
  subst e_a1
  subst e_x_imagesKept
  subst e_q_people
  subst e_q_safeRooms
  subst e_q_passages
  subst e_q_shut
  subst e_d_size
  rw [iv_X4_count] at hv
  rw [vc_X4_count]
  obtain ⟨hc_1, hv⟩ := hv
  refine ⟨fun c9 => ?_, fun c9 => ?_, fun c9 => ?_, fun c9 => ?_, fun c9 => ?_, fun c9 => ?_, fun c9 => ?_⟩
  · have hv := hv.1 ((z_eq (x := (iz a1)) (y := 0) (a := a1) (b := 0) rfl rfl hc_1 (by unfold sm; omega)).mp c9)
    refine lift_X2_allPeople (by first | with_reducible rfl | simp only [zl, iz_add, iz_sub, iz_mul, iz_neg]) hv (fun r_3 u_2 y_4 y_5 hv er_6 eu_7 => ?_)
    subst er_6; subst eu_7
    try dsimp only
    exact hp _ _ _ _ hv (by first | with_reducible rfl | simp only [zl, iz_add, iz_sub, iz_mul, iz_neg]) (by first | with_reducible rfl | simp only [zl, iz_add, iz_sub, iz_mul, iz_neg])
  · have hv := hv.2.1 ((z_eq (x := (iz a1)) (y := 1) (a := a1) (b := 1) rfl rfl hc_1 (by unfold sm; omega)).mp c9)
    exact hp _ _ _ _ hv (by first | with_reducible rfl | simp only [zl, iz_add, iz_sub, iz_mul, iz_neg]) (by first | with_reducible rfl | simp only [zl, iz_add, iz_sub, iz_mul, iz_neg])
  · have hv := hv.2.2.1 ((z_eq (x := (iz a1)) (y := 2) (a := a1) (b := 2) rfl rfl hc_1 (by unfold sm; omega)).mp c9)
    exact hp _ _ _ _ hv (by first | with_reducible rfl | simp only [zl, iz_add, iz_sub, iz_mul, iz_neg]) (by first | with_reducible rfl | simp only [zl, iz_add, iz_sub, iz_mul, iz_neg])
  · have hv := hv.2.2.2.1 ((z_eq (x := (iz a1)) (y := 3) (a := a1) (b := 3) rfl rfl hc_1 (by unfold sm; omega)).mp c9)
    refine lift_X2_passagesEverShut (by first | with_reducible rfl | simp only [zl, iz_add, iz_sub, iz_mul, iz_neg]) (by first | with_reducible rfl | simp only [zl, iz_add, iz_sub, iz_mul, iz_neg]) hv (fun r_9 u_8 y_10 y_11 hv er_12 eu_13 => ?_)
    subst er_12; subst eu_13
    try dsimp only
    exact hp _ _ _ _ hv (by first | with_reducible rfl | simp only [zl, iz_add, iz_sub, iz_mul, iz_neg]) (by first | with_reducible rfl | simp only [zl, iz_add, iz_sub, iz_mul, iz_neg])
  · have hv := hv.2.2.2.2.1 ((z_eq (x := (iz a1)) (y := 4) (a := a1) (b := 4) rfl rfl hc_1 (by unfold sm; omega)).mp c9)
    exact hp _ _ _ _ hv (by first | with_reducible rfl | simp only [zl, iz_add, iz_sub, iz_mul, iz_neg]) (by first | with_reducible rfl | simp only [zl, iz_add, iz_sub, iz_mul, iz_neg])
  · have hv := hv.2.2.2.2.2.1 ((z_eq (x := (iz a1)) (y := 5) (a := a1) (b := 5) rfl rfl hc_1 (by unfold sm; omega)).mp c9)
    exact hp _ _ _ _ hv (by first | with_reducible rfl | simp only [zl, iz_add, iz_sub, iz_mul, iz_neg]) (by first | with_reducible rfl | simp only [zl, iz_add, iz_sub, iz_mul, iz_neg])
  · have hv := hv.2.2.2.2.2.2 ⟨fun z9 => c9.1 ((z_eq (x := (iz a1)) (y := 0) (a := a1) (b := 0) rfl rfl hc_1 (by unfold sm; omega)).mpr z9), fun z9 => c9.2.1 ((z_eq (x := (iz a1)) (y := 1) (a := a1) (b := 1) rfl rfl hc_1 (by unfold sm; omega)).mpr z9), fun z9 => c9.2.2.1 ((z_eq (x := (iz a1)) (y := 2) (a := a1) (b := 2) rfl rfl hc_1 (by unfold sm; omega)).mpr z9), fun z9 => c9.2.2.2.1 ((z_eq (x := (iz a1)) (y := 3) (a := a1) (b := 3) rfl rfl hc_1 (by unfold sm; omega)).mpr z9), fun z9 => c9.2.2.2.2.1 ((z_eq (x := (iz a1)) (y := 4) (a := a1) (b := 4) rfl rfl hc_1 (by unfold sm; omega)).mpr z9), fun z9 => c9.2.2.2.2.2 ((z_eq (x := (iz a1)) (y := 5) (a := a1) (b := 5) rfl rfl hc_1 (by unfold sm; omega)).mpr z9)⟩
    exact hp _ _ _ _ hv (by first | with_reducible rfl | simp only [zl, iz_add, iz_sub, iz_mul, iz_neg]) (by first | with_reducible rfl | simp only [zl, iz_add, iz_sub, iz_mul, iz_neg])
