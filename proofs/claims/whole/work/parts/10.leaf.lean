def vc_X4_isIn (a0 : Int32) (a1 : Int32) (post : Int32 → Unit → Prop) : Prop :=
  ((¬ ((a0 >>> (a1 &&& 31)) &&& 1) = 1 → post 0 ()) ∧ (((a0 >>> (a1 &&& 31)) &&& 1) = 1 → post 1 ()))

set_option maxHeartbeats 4000000 in
set_option maxRecDepth 100000 in
theorem m_X4_isIn (l : Launch) (D : va_G) (cI cZ : ClassId)  (a0 : Int32) (a1 : Int32) (sz : Nat) {post : Int32 → Unit → Prop} (hv : vc_X4_isIn a0 a1 post) :
    Met l yX4_isIn (Cond.code yX4_isIn cX4_isIn 2 (some .boolean) :: lw_good) ({ frames := 0, cells := 0, slots := 0, locals := 0 } : Room) (va_Pc [.int a0, .int a1] (lw_B D cI cZ [] sz)) (lw_Qi D cI cZ (va_A [] sz) (fun u : Unit => []) post) 0 0 (va_A [] sz) := by
  refine lw_met (Q := fun A => lw_Qi D cI cZ A (fun u : Unit => []) post) (by decide) (Nat.le_of_ble_eq_true rfl) ?_
  intro p e s m below meth c A C hnm hP hD hS ls hl
  have C : lw_Cx D cI cZ p s m _ meth c cX4_isIn 2 (some .boolean) RX4 A := C
  obtain ⟨hx, hb, hr, hml, hown, hts, hlocks, hN, hK, hA⟩ := id C
  have hl : lv_has ls 2 [(0, .int a0), (1, .int a1)] := hl
  obtain ⟨H, hH⟩ : ∃ H, H = s.heap := ⟨_, rfl⟩
  rw [← hH] at hP
  have hS : va_S A s.heap H [] := by rw [hH]; exact hS
  suffices hgoal : W p l e ({ frames := 0, cells := 0, slots := 0, locals := 0 } : Room) s m #[.int a0, .int a1] below meth c H [] 0 0 (MQ below (lw_Qi D cI cZ A (fun u : Unit => []) post) #[.int a0, .int a1] s 0 0 A) (F0 m 0 ls []) by rw [hH] at hgoal; exact hgoal
  obtain ⟨locs, hlo⟩ : ∃ locs : List Loc, locs = [] := ⟨_, rfl⟩
  rw [← hlo] at hS ⊢
  rw [vc_X4_isIn] at hv
  refine lv_iload_n hx hb dX4_isIn_0 rfl (lv_at hl 0 rfl) ?_
  refine lv_iload_n hx hb dX4_isIn_1 rfl (lv_at hl 1 rfl) ?_
  refine lv_ishr hx hb dX4_isIn_2 ?_
  refine lv_iconst (v := 1) hx hb dX4_isIn_3 (by decide) ?_
  refine lv_iand hx hb dX4_isIn_4 ?_
  refine lv_iconst (v := 1) hx hb dX4_isIn_5 (by decide) ?_
  refine lv_icmp_ne (tgt := 13) hx hb dX4_isIn_6 (by decide) (fun c9 => ?_) (fun c9 => ?_)
  · have hv := hv.1 c9
    refine lv_iconst (v := 0) hx hb dX4_isIn_13 (by decide) ?_
    exact lw_zret C () rfl hv hP hD hS dX4_isIn_14
  · have hv := hv.2 c9
    refine lv_iconst (v := 1) hx hb dX4_isIn_9 (by decide) ?_
    refine lv_goto (tgt := 14) hx hb dX4_isIn_10 (by decide) ?_
    exact lw_zret C () rfl hv hP hD hS dX4_isIn_14

def vc_X4_isWithin (a0 : Int32) (a1 : Int32) (a2 : Int32) (post : Int32 → Unit → Prop) : Prop :=
  ((a0 < a1 → post 0 ()) ∧ (¬ a0 < a1 → ((a2 < a0 → post 0 ()) ∧ (¬ a2 < a0 → post 1 ()))))

set_option maxHeartbeats 4000000 in
set_option maxRecDepth 100000 in
theorem m_X4_isWithin (l : Launch) (D : va_G) (cI cZ : ClassId)  (a0 : Int32) (a1 : Int32) (a2 : Int32) (sz : Nat) {post : Int32 → Unit → Prop} (hv : vc_X4_isWithin a0 a1 a2 post) :
    Met l yX4_isWithin (Cond.code yX4_isWithin cX4_isWithin 3 (some .boolean) :: lw_good) ({ frames := 0, cells := 0, slots := 0, locals := 0 } : Room) (va_Pc [.int a0, .int a1, .int a2] (lw_B D cI cZ [] sz)) (lw_Qi D cI cZ (va_A [] sz) (fun u : Unit => []) post) 0 0 (va_A [] sz) := by
  refine lw_met (Q := fun A => lw_Qi D cI cZ A (fun u : Unit => []) post) (by decide) (Nat.le_of_ble_eq_true rfl) ?_
  intro p e s m below meth c A C hnm hP hD hS ls hl
  have C : lw_Cx D cI cZ p s m _ meth c cX4_isWithin 3 (some .boolean) RX4 A := C
  obtain ⟨hx, hb, hr, hml, hown, hts, hlocks, hN, hK, hA⟩ := id C
  have hl : lv_has ls 3 [(0, .int a0), (1, .int a1), (2, .int a2)] := hl
  obtain ⟨H, hH⟩ : ∃ H, H = s.heap := ⟨_, rfl⟩
  rw [← hH] at hP
  have hS : va_S A s.heap H [] := by rw [hH]; exact hS
  suffices hgoal : W p l e ({ frames := 0, cells := 0, slots := 0, locals := 0 } : Room) s m #[.int a0, .int a1, .int a2] below meth c H [] 0 0 (MQ below (lw_Qi D cI cZ A (fun u : Unit => []) post) #[.int a0, .int a1, .int a2] s 0 0 A) (F0 m 0 ls []) by rw [hH] at hgoal; exact hgoal
  obtain ⟨locs, hlo⟩ : ∃ locs : List Loc, locs = [] := ⟨_, rfl⟩
  rw [← hlo] at hS ⊢
  rw [vc_X4_isWithin] at hv
  refine lv_iload_n hx hb dX4_isWithin_0 rfl (lv_at hl 0 rfl) ?_
  refine lv_iload_n hx hb dX4_isWithin_1 rfl (lv_at hl 1 rfl) ?_
  refine lv_icmp_lt (tgt := 14) hx hb dX4_isWithin_2 (by decide) (fun c9 => ?_) (fun c9 => ?_)
  · have hv := hv.1 c9
    refine lv_iconst (v := 0) hx hb dX4_isWithin_14 (by decide) ?_
    exact lw_zret C () rfl hv hP hD hS dX4_isWithin_15
  · have hv := hv.2 c9
    refine lv_iload_n hx hb dX4_isWithin_5 rfl (lv_at hl 0 rfl) ?_
    refine lv_iload_n hx hb dX4_isWithin_6 rfl (lv_at hl 2 rfl) ?_
    refine lv_icmp_gt (tgt := 14) hx hb dX4_isWithin_7 (by decide) (fun c9 => ?_) (fun c9 => ?_)
    · have hv := hv.1 c9
      refine lv_iconst (v := 0) hx hb dX4_isWithin_14 (by decide) ?_
      exact lw_zret C () rfl hv hP hD hS dX4_isWithin_15
    · have hv := hv.2 c9
      refine lv_iconst (v := 1) hx hb dX4_isWithin_10 (by decide) ?_
      refine lv_goto (tgt := 15) hx hb dX4_isWithin_11 (by decide) ?_
      exact lw_zret C () rfl hv hP hD hS dX4_isWithin_15

def vc_X4_isRoom (a0 : Int32) (post : Int32 → Unit → Prop) : Prop :=
  (vc_X4_isWithin a0 0 5 (fun (r_2 : Int32) (u_1 : Unit) => (narrow .boolean (.int r_2) = .int r_2 ∧ post r_2 ())))

set_option maxHeartbeats 4000000 in
set_option maxRecDepth 100000 in
theorem m_X4_isRoom (l : Launch) (D : va_G) (cI cZ : ClassId)  (a0 : Int32) (sz : Nat) {post : Int32 → Unit → Prop} (hv : vc_X4_isRoom a0 post) :
    Met l yX4_isRoom (Cond.code yX4_isRoom cX4_isRoom 1 (some .boolean) :: lw_good) ({ frames := 1, cells := 0, slots := 0, locals := 22 } : Room) (va_Pc [.int a0] (lw_B D cI cZ [] sz)) (lw_Qi D cI cZ (va_A [] sz) (fun u : Unit => []) post) 0 0 (va_A [] sz) := by
  refine lw_met (Q := fun A => lw_Qi D cI cZ A (fun u : Unit => []) post) (by decide) (Nat.le_of_ble_eq_true rfl) ?_
  intro p e s m below meth c A C hnm hP hD hS ls hl
  have C : lw_Cx D cI cZ p s m _ meth c cX4_isRoom 1 (some .boolean) RX4 A := C
  obtain ⟨hx, hb, hr, hml, hown, hts, hlocks, hN, hK, hA⟩ := id C
  have hl : lv_has ls 1 [(0, .int a0)] := hl
  obtain ⟨H, hH⟩ : ∃ H, H = s.heap := ⟨_, rfl⟩
  rw [← hH] at hP
  have hS : va_S A s.heap H [] := by rw [hH]; exact hS
  suffices hgoal : W p l e ({ frames := 1, cells := 0, slots := 0, locals := 22 } : Room) s m #[.int a0] below meth c H [] 0 0 (MQ below (lw_Qi D cI cZ A (fun u : Unit => []) post) #[.int a0] s 0 0 A) (F0 m 0 ls []) by rw [hH] at hgoal; exact hgoal
  obtain ⟨locs, hlo⟩ : ∃ locs : List Loc, locs = [] := ⟨_, rfl⟩
  rw [← hlo] at hS ⊢
  rw [vc_X4_isRoom] at hv
  refine lv_iload_n hx hb dX4_isRoom_0 rfl (lv_at hl 0 rfl) ?_
  refine lv_iconst (v := 0) hx hb dX4_isRoom_1 (by decide) ?_
  refine lv_iconst (v := 5) hx hb dX4_isRoom_2 (by decide) ?_
  refine lw_calli (wr := []) C (lw_runS (own := RX4) (n := 3) C hP hD [] rfl rfl (m_X4_isWithin l D cI cZ a0 0 5 H.size hv) kw_277 kw_275 kw_276 kw_68 (by decide +kernel) rfl ⟨rfl, rfl, Nat.le_of_ble_eq_true rfl, Nat.le_of_ble_eq_true rfl, Nat.le_of_ble_eq_true rfl, Nat.le_of_ble_eq_true rfl⟩ hl.1 rfl (Nat.le_of_ble_eq_true rfl) dX4_isRoom_3) hP hD hS [] [] rfl rfl rfl (by decide +kernel) (fun r_2 u_1 H locs hv hP hD hS => ?_)
  have hP : va_P D vwCl [] H := hP
  have hD : va_D A [] := hD
  exact lw_zret C () hv.1 hv.2 hP hD hS dX4_isRoom_6

def vc_J6_bitCount_0f7a4 (a0 : Int32) (post : Int32 → Unit → Prop) : Prop :=
  (∀ x0_1 : Int32, x0_1 = (a0 - (((Int32.toUInt32 a0 >>> (Int32.toUInt32 1 &&& Int32.toUInt32 31)).toInt32) &&& (1431655765 : Int32))) → (∀ x0_2 : Int32, x0_2 = ((x0_1 &&& (858993459 : Int32)) + (((Int32.toUInt32 x0_1 >>> (Int32.toUInt32 2 &&& Int32.toUInt32 31)).toInt32) &&& (858993459 : Int32))) → (∀ x0_3 : Int32, x0_3 = ((x0_2 + ((Int32.toUInt32 x0_2 >>> (Int32.toUInt32 4 &&& Int32.toUInt32 31)).toInt32)) &&& (252645135 : Int32)) → (∀ x0_4 : Int32, x0_4 = (x0_3 + ((Int32.toUInt32 x0_3 >>> (Int32.toUInt32 8 &&& Int32.toUInt32 31)).toInt32)) → (∀ x0_5 : Int32, x0_5 = (x0_4 + ((Int32.toUInt32 x0_4 >>> (Int32.toUInt32 16 &&& Int32.toUInt32 31)).toInt32)) → post (x0_5 &&& 63) ())))))

set_option maxHeartbeats 4000000 in
set_option maxRecDepth 100000 in
theorem m_J6_bitCount_0f7a4 (l : Launch) (D : va_G) (cI cZ : ClassId)  (a0 : Int32) (sz : Nat) {post : Int32 → Unit → Prop} (hv : vc_J6_bitCount_0f7a4 a0 post) :
    Met l yJ6_bitCount_0f7a4 (Cond.code yJ6_bitCount_0f7a4 cJ6_bitCount_0f7a4 1 (some .int) :: lw_good) ({ frames := 0, cells := 0, slots := 0, locals := 0 } : Room) (va_Pc [.int a0] (lw_B D cI cZ [] sz)) (lw_Qi D cI cZ (va_A [] sz) (fun u : Unit => []) post) 0 0 (va_A [] sz) := by
  refine lw_metF (Q := fun A => lw_Qi D cI cZ A (fun u : Unit => []) post) (by decide +kernel) (Nat.le_of_ble_eq_true rfl) ?_
  intro p e s m below meth c A C hnm hP hD hS ls hl
  have C : lw_Cx D cI cZ p s m _ meth c cJ6_bitCount_0f7a4 1 (some .int) RJ6 A := C
  obtain ⟨hx, hb, hr, hml, hown, hts, hlocks, hN, hK, hA⟩ := id C
  have hl : lv_has ls 1 [(0, .int a0)] := hl
  obtain ⟨H, hH⟩ : ∃ H, H = s.heap := ⟨_, rfl⟩
  rw [← hH] at hP
  have hS : va_S A s.heap H [] := by rw [hH]; exact hS
  suffices hgoal : W p l e ({ frames := 0, cells := 0, slots := 0, locals := 0 } : Room) s m #[.int a0] below meth c H [] 0 0 (MQ below (lw_Qi D cI cZ A (fun u : Unit => []) post) #[.int a0] s 0 0 A) (F0 m 0 ls []) by rw [hH] at hgoal; exact hgoal
  obtain ⟨locs, hlo⟩ : ∃ locs : List Loc, locs = [] := ⟨_, rfl⟩
  rw [← hlo] at hS ⊢
  rw [vc_J6_bitCount_0f7a4] at hv
  refine lv_iload_n hx hb dJ6_bitCount_0f7a4_0 rfl (lv_at hl 0 rfl) ?_
  refine lv_iload_n hx hb dJ6_bitCount_0f7a4_1 rfl (lv_at hl 0 rfl) ?_
  refine lv_iconst (v := 1) hx hb dJ6_bitCount_0f7a4_2 (by decide) ?_
  refine lv_iushr (v := (Int32.toUInt32 a0 >>> (Int32.toUInt32 1 &&& Int32.toUInt32 31)).toInt32) hx hb dJ6_bitCount_0f7a4_3 rfl ?_
  refine lv_ldcw (v := 1431655765) hx hb hown (hts _ kw_285) dJ6_bitCount_0f7a4_4 ?_
  refine lv_iand hx hb dJ6_bitCount_0f7a4_7 ?_
  refine lv_isub hx hb dJ6_bitCount_0f7a4_8 ?_
  refine lv_topi (fun x0_1 ex0_1 => ?_)
  have hv := hv x0_1 ex0_1
  refine lv_istore_n (lv' := [(0, .int x0_1)]) hx hb dJ6_bitCount_0f7a4_9 rfl hl (by decide) rfl (fun ls hl => ?_)
  refine lv_iload_n hx hb dJ6_bitCount_0f7a4_10 rfl (lv_at hl 0 rfl) ?_
  refine lv_ldcw (v := 858993459) hx hb hown (hts _ kw_286) dJ6_bitCount_0f7a4_11 ?_
  refine lv_iand hx hb dJ6_bitCount_0f7a4_14 ?_
  refine lv_iload_n hx hb dJ6_bitCount_0f7a4_15 rfl (lv_at hl 0 rfl) ?_
  refine lv_iconst (v := 2) hx hb dJ6_bitCount_0f7a4_16 (by decide) ?_
  refine lv_iushr (v := (Int32.toUInt32 x0_1 >>> (Int32.toUInt32 2 &&& Int32.toUInt32 31)).toInt32) hx hb dJ6_bitCount_0f7a4_17 rfl ?_
  refine lv_ldcw (v := 858993459) hx hb hown (hts _ kw_286) dJ6_bitCount_0f7a4_18 ?_
  refine lv_iand hx hb dJ6_bitCount_0f7a4_21 ?_
  refine lv_iadd hx hb dJ6_bitCount_0f7a4_22 ?_
  refine lv_topi (fun x0_2 ex0_2 => ?_)
  have hv := hv x0_2 ex0_2
  refine lv_istore_n (lv' := [(0, .int x0_2)]) hx hb dJ6_bitCount_0f7a4_23 rfl hl (by decide) rfl (fun ls hl => ?_)
  refine lv_iload_n hx hb dJ6_bitCount_0f7a4_24 rfl (lv_at hl 0 rfl) ?_
  refine lv_iload_n hx hb dJ6_bitCount_0f7a4_25 rfl (lv_at hl 0 rfl) ?_
  refine lv_iconst (v := 4) hx hb dJ6_bitCount_0f7a4_26 (by decide) ?_
  refine lv_iushr (v := (Int32.toUInt32 x0_2 >>> (Int32.toUInt32 4 &&& Int32.toUInt32 31)).toInt32) hx hb dJ6_bitCount_0f7a4_27 rfl ?_
  refine lv_iadd hx hb dJ6_bitCount_0f7a4_28 ?_
  refine lv_ldcw (v := 252645135) hx hb hown (hts _ kw_287) dJ6_bitCount_0f7a4_29 ?_
  refine lv_iand hx hb dJ6_bitCount_0f7a4_32 ?_
  refine lv_topi (fun x0_3 ex0_3 => ?_)
  have hv := hv x0_3 ex0_3
  refine lv_istore_n (lv' := [(0, .int x0_3)]) hx hb dJ6_bitCount_0f7a4_33 rfl hl (by decide) rfl (fun ls hl => ?_)
  refine lv_iload_n hx hb dJ6_bitCount_0f7a4_34 rfl (lv_at hl 0 rfl) ?_
  refine lv_iload_n hx hb dJ6_bitCount_0f7a4_35 rfl (lv_at hl 0 rfl) ?_
  refine lv_bipush (v := 8) hx hb dJ6_bitCount_0f7a4_36 (by decide) ?_
  refine lv_iushr (v := (Int32.toUInt32 x0_3 >>> (Int32.toUInt32 8 &&& Int32.toUInt32 31)).toInt32) hx hb dJ6_bitCount_0f7a4_38 rfl ?_
  refine lv_iadd hx hb dJ6_bitCount_0f7a4_39 ?_
  refine lv_topi (fun x0_4 ex0_4 => ?_)
  have hv := hv x0_4 ex0_4
  refine lv_istore_n (lv' := [(0, .int x0_4)]) hx hb dJ6_bitCount_0f7a4_40 rfl hl (by decide) rfl (fun ls hl => ?_)
  refine lv_iload_n hx hb dJ6_bitCount_0f7a4_41 rfl (lv_at hl 0 rfl) ?_
  refine lv_iload_n hx hb dJ6_bitCount_0f7a4_42 rfl (lv_at hl 0 rfl) ?_
  refine lv_bipush (v := 16) hx hb dJ6_bitCount_0f7a4_43 (by decide) ?_
  refine lv_iushr (v := (Int32.toUInt32 x0_4 >>> (Int32.toUInt32 16 &&& Int32.toUInt32 31)).toInt32) hx hb dJ6_bitCount_0f7a4_45 rfl ?_
  refine lv_iadd hx hb dJ6_bitCount_0f7a4_46 ?_
  refine lv_topi (fun x0_5 ex0_5 => ?_)
  have hv := hv x0_5 ex0_5
  refine lv_istore_n (lv' := [(0, .int x0_5)]) hx hb dJ6_bitCount_0f7a4_47 rfl hl (by decide) rfl (fun ls hl => ?_)
  refine lv_iload_n hx hb dJ6_bitCount_0f7a4_48 rfl (lv_at hl 0 rfl) ?_
  refine lv_bipush (v := 63) hx hb dJ6_bitCount_0f7a4_49 (by decide) ?_
  refine lv_iand hx hb dJ6_bitCount_0f7a4_51 ?_
  exact lw_iret C () hv hP hD hS dJ6_bitCount_0f7a4_52

def vc_X4_bitsOf_L15 (K : Int32 → UInt32 → Prop)  : Nat → Int32 → UInt32 → Int32 → Prop
  | 0, _, _, _ => False
  | n + 1, v1, v2, v3 =>
    ((128 ≤ v3 → K v1 v2) ∧ (¬ 128 ≤ v3 → (((Op.cmpValue (FP.fcmp v2 FP.fconst2) CmpOp.l) < 0 → K v1 v2) ∧ (¬ (Op.cmpValue (FP.fcmp v2 FP.fconst2) CmpOp.l) < 0 → (vf_n32 (FP.fmul v2 (1056964608 : UInt32)) ∧ (∀ x2_2 : UInt32, x2_2 = (FP.fmul v2 (1056964608 : UInt32)) → (∀ x1_3 : Int32, x1_3 = v1 + 1 → (∀ x3_4 : Int32, x3_4 = v3 + 1 → vc_X4_bitsOf_L15 K  n x1_3 x2_2 x3_4))))))))

set_option maxHeartbeats 4000000 in
set_option maxRecDepth 100000 in
theorem w_X4_bitsOf_L15 {p : Program} {l : Launch} {e : Env} {s : State} {m : MethodId} {args : Array Value} {below : List Frame} {meth : Method} {c : Code} {D : va_G} {cI cZ : ClassId} {A : Nat → Prop} {Q : State → Prop}   (C : lw_Cx D cI cZ p s m args meth c cX4_bitsOf 4 (some .int) RX4 A) (K : Int32 → UInt32 → Prop) (hKx : ∀ (k1 : Int32) (k2 : UInt32) (H : Heap) (locs : List Loc) (ls : Array Slot), K k1 k2 → va_P D vwCl [] H → va_D A [] → va_S A s.heap H locs → lv_has ls 4 [(1, .int k1), (2, .float k2)] → W p l e ({ frames := 0, cells := 0, slots := 0, locals := 0 } : Room) s m args below meth c H locs 0 0 Q (F0 m 42 ls [])) :
    ∀ (n : Nat) (v1 : Int32) (v2 : UInt32) (v3 : Int32) (H : Heap) (locs : List Loc) (ls : Array Slot), vc_X4_bitsOf_L15 K  n v1 v2 v3 → va_P D vwCl [] H → va_D A [] → va_S A s.heap H locs → lv_has ls 4 [(1, .int v1), (2, .float v2), (3, .int v3)] → W p l e ({ frames := 0, cells := 0, slots := 0, locals := 0 } : Room) s m args below meth c H locs 0 0 Q (F0 m 15 ls []) := by
  obtain ⟨hx, hb, hr, hml, hown, hts, hlocks, hN, hK, hA⟩ := id C
  intro n
  induction n with
  | zero =>
    intro v1 v2 v3 H locs ls hv
    exact False.elim hv
  | succ n ih =>
    intro v1 v2 v3 H locs ls hv hP hD hS hl
    rw [vc_X4_bitsOf_L15] at hv
    refine lv_iload_n hx hb dX4_bitsOf_15 rfl (lv_at hl 2 rfl) ?_
    refine lv_sipush (v := 128) hx hb dX4_bitsOf_16 (by decide) ?_
    refine lv_icmp_ge (tgt := 42) hx hb dX4_bitsOf_19 (by decide) (fun c9 => ?_) (fun c9 => ?_)
    · have hv := hv.1 c9
      exact hKx v1 v2 H locs ls hv hP hD hS (lv_sub hl [0, 1] rfl)
    · have hv := hv.2 c9
      refine lv_fload_n hx hb dX4_bitsOf_22 rfl (lv_at hl 1 rfl) ?_
      refine lv_fconst2 hx hb dX4_bitsOf_23 ?_
      refine lv_fcmp hx hb dX4_bitsOf_24 ?_
      refine lv_if_lt (tgt := 42) hx hb dX4_bitsOf_25 (by decide) (fun c9 => ?_) (fun c9 => ?_)
      · have hv := hv.1 c9
        exact hKx v1 v2 H locs ls hv hP hD hS (lv_sub hl [0, 1] rfl)
      · have hv := hv.2 c9
        refine lv_fload_n hx hb dX4_bitsOf_28 rfl (lv_at hl 1 rfl) ?_
        refine lv_ldcf (v := 1056964608) hx hb hown (hts _ kw_361) dX4_bitsOf_29 ?_
        obtain ⟨hn_1, hv⟩ := hv
        refine lv_fmul hx hb dX4_bitsOf_31 hn_1 ?_
        refine lv_topf (fun x2_2 ex2_2 => ?_)
        have hv := hv x2_2 ex2_2
        refine lv_fstore_n (lv' := [(2, .float x2_2), (1, .int v1), (3, .int v3)]) hx hb dX4_bitsOf_32 rfl hl (by decide) rfl (fun ls hl => ?_)
        obtain ⟨x1_3, ex1_3⟩ : ∃ y : Int32, y = v1 + 1 := ⟨_, rfl⟩
        have hv := hv x1_3 ex1_3
        refine lv_iinc (v := x1_3) (lv' := [(1, .int x1_3), (2, .float x2_2), (3, .int v3)]) hx hb dX4_bitsOf_33 hl (k := 1) rfl (by rw [ex1_3]; rfl) (by decide) rfl (fun ls hl => ?_)
        obtain ⟨x3_4, ex3_4⟩ : ∃ y : Int32, y = v3 + 1 := ⟨_, rfl⟩
        have hv := hv x3_4 ex3_4
        refine lv_iinc (v := x3_4) (lv' := [(3, .int x3_4), (1, .int x1_3), (2, .float x2_2)]) hx hb dX4_bitsOf_36 hl (k := 2) rfl (by rw [ex3_4]; rfl) (by decide) rfl (fun ls hl => ?_)
        refine lv_goto (tgt := 15) hx hb dX4_bitsOf_39 (by decide) ?_
        exact ih x1_3 x2_2 x3_4 H locs ls hv hP hD hS (lv_sub hl [1, 2, 0] rfl)

def vc_X4_bitsOf_L44 (K : Int32 → UInt32 → Prop)  : Nat → Int32 → UInt32 → Int32 → Prop
  | 0, _, _, _ => False
  | n + 1, v1, v2, v3 =>
    ((126 ≤ v3 → K v1 v2) ∧ (¬ 126 ≤ v3 → ((0 ≤ (Op.cmpValue (FP.fcmp v2 FP.fconst1) CmpOp.g) → K v1 v2) ∧ (¬ 0 ≤ (Op.cmpValue (FP.fcmp v2 FP.fconst1) CmpOp.g) → (vf_n32 (FP.fmul v2 FP.fconst2) ∧ (∀ x2_8 : UInt32, x2_8 = (FP.fmul v2 FP.fconst2) → (∀ x1_9 : Int32, x1_9 = v1 + (-1) → (∀ x3_10 : Int32, x3_10 = v3 + 1 → vc_X4_bitsOf_L44 K  n x1_9 x2_8 x3_10))))))))

set_option maxHeartbeats 4000000 in
set_option maxRecDepth 100000 in
theorem w_X4_bitsOf_L44 {p : Program} {l : Launch} {e : Env} {s : State} {m : MethodId} {args : Array Value} {below : List Frame} {meth : Method} {c : Code} {D : va_G} {cI cZ : ClassId} {A : Nat → Prop} {Q : State → Prop}   (C : lw_Cx D cI cZ p s m args meth c cX4_bitsOf 4 (some .int) RX4 A) (K : Int32 → UInt32 → Prop) (hKx : ∀ (k1 : Int32) (k2 : UInt32) (H : Heap) (locs : List Loc) (ls : Array Slot), K k1 k2 → va_P D vwCl [] H → va_D A [] → va_S A s.heap H locs → lv_has ls 4 [(1, .int k1), (2, .float k2)] → W p l e ({ frames := 0, cells := 0, slots := 0, locals := 0 } : Room) s m args below meth c H locs 0 0 Q (F0 m 69 ls [])) :
    ∀ (n : Nat) (v1 : Int32) (v2 : UInt32) (v3 : Int32) (H : Heap) (locs : List Loc) (ls : Array Slot), vc_X4_bitsOf_L44 K  n v1 v2 v3 → va_P D vwCl [] H → va_D A [] → va_S A s.heap H locs → lv_has ls 4 [(1, .int v1), (2, .float v2), (3, .int v3)] → W p l e ({ frames := 0, cells := 0, slots := 0, locals := 0 } : Room) s m args below meth c H locs 0 0 Q (F0 m 44 ls []) := by
  obtain ⟨hx, hb, hr, hml, hown, hts, hlocks, hN, hK, hA⟩ := id C
  intro n
  induction n with
  | zero =>
    intro v1 v2 v3 H locs ls hv
    exact False.elim hv
  | succ n ih =>
    intro v1 v2 v3 H locs ls hv hP hD hS hl
    rw [vc_X4_bitsOf_L44] at hv
    refine lv_iload_n hx hb dX4_bitsOf_44 rfl (lv_at hl 2 rfl) ?_
    refine lv_bipush (v := 126) hx hb dX4_bitsOf_45 (by decide) ?_
    refine lv_icmp_ge (tgt := 69) hx hb dX4_bitsOf_47 (by decide) (fun c9 => ?_) (fun c9 => ?_)
    · have hv := hv.1 c9
      exact hKx v1 v2 H locs ls hv hP hD hS (lv_sub hl [0, 1] rfl)
    · have hv := hv.2 c9
      refine lv_fload_n hx hb dX4_bitsOf_50 rfl (lv_at hl 1 rfl) ?_
      refine lv_fconst1 hx hb dX4_bitsOf_51 ?_
      refine lv_fcmp hx hb dX4_bitsOf_52 ?_
      refine lv_if_ge (tgt := 69) hx hb dX4_bitsOf_53 (by decide) (fun c9 => ?_) (fun c9 => ?_)
      · have hv := hv.1 c9
        exact hKx v1 v2 H locs ls hv hP hD hS (lv_sub hl [0, 1] rfl)
      · have hv := hv.2 c9
        refine lv_fload_n hx hb dX4_bitsOf_56 rfl (lv_at hl 1 rfl) ?_
        refine lv_fconst2 hx hb dX4_bitsOf_57 ?_
        obtain ⟨hn_7, hv⟩ := hv
        refine lv_fmul hx hb dX4_bitsOf_58 hn_7 ?_
        refine lv_topf (fun x2_8 ex2_8 => ?_)
        have hv := hv x2_8 ex2_8
        refine lv_fstore_n (lv' := [(2, .float x2_8), (1, .int v1), (3, .int v3)]) hx hb dX4_bitsOf_59 rfl hl (by decide) rfl (fun ls hl => ?_)
        obtain ⟨x1_9, ex1_9⟩ : ∃ y : Int32, y = v1 + (-1) := ⟨_, rfl⟩
        have hv := hv x1_9 ex1_9
        refine lv_iinc (v := x1_9) (lv' := [(1, .int x1_9), (2, .float x2_8), (3, .int v3)]) hx hb dX4_bitsOf_60 hl (k := 1) rfl (by rw [ex1_9]; rfl) (by decide) rfl (fun ls hl => ?_)
        obtain ⟨x3_10, ex3_10⟩ : ∃ y : Int32, y = v3 + 1 := ⟨_, rfl⟩
        have hv := hv x3_10 ex3_10
        refine lv_iinc (v := x3_10) (lv' := [(3, .int x3_10), (1, .int x1_9), (2, .float x2_8)]) hx hb dX4_bitsOf_63 hl (k := 2) rfl (by rw [ex3_10]; rfl) (by decide) rfl (fun ls hl => ?_)
        refine lv_goto (tgt := 44) hx hb dX4_bitsOf_66 (by decide) ?_
        exact ih x1_9 x2_8 x3_10 H locs ls hv hP hD hS (lv_sub hl [1, 2, 0] rfl)

def vc_X4_bitsOf (a0 : UInt32) (post : Int32 → Unit → Prop) : Prop :=
  ((0 < (Op.cmpValue (FP.fcmp a0 FP.fconst0) CmpOp.l) → (∃ n_16, vc_X4_bitsOf_L15 (fun k1_5 k2_6 => (∃ n_15, vc_X4_bitsOf_L44 (fun k1_11 k2_12 => (vf_n32 (FP.fmul k2_12 (1258291200 : UInt32)) ∧ (∀ x3_14 : Int32, x3_14 = ((FP.f2i (FP.fmul k2_12 (1258291200 : UInt32))) - (8388608 : Int32)) → post ((k1_11 <<< (23 &&& 31)) + x3_14) ())))   n_15 k1_5 k2_6 0))   n_16 127 a0 0)) ∧ (¬ 0 < (Op.cmpValue (FP.fcmp a0 FP.fconst0) CmpOp.l) → post 0 ()))

set_option maxHeartbeats 4000000 in
set_option maxRecDepth 100000 in
theorem m_X4_bitsOf (l : Launch) (D : va_G) (cI cZ : ClassId)  (a0 : UInt32) (sz : Nat) {post : Int32 → Unit → Prop} (hv : vc_X4_bitsOf a0 post) :
    Met l yX4_bitsOf (Cond.code yX4_bitsOf cX4_bitsOf 4 (some .int) :: lw_good) ({ frames := 0, cells := 0, slots := 0, locals := 0 } : Room) (va_Pc [.float a0] (lw_B D cI cZ [] sz)) (lw_Qi D cI cZ (va_A [] sz) (fun u : Unit => []) post) 0 0 (va_A [] sz) := by
  refine lw_met (Q := fun A => lw_Qi D cI cZ A (fun u : Unit => []) post) (by decide) (Nat.le_of_ble_eq_true rfl) ?_
  intro p e s m below meth c A C hnm hP hD hS ls hl
  have C : lw_Cx D cI cZ p s m _ meth c cX4_bitsOf 4 (some .int) RX4 A := C
  obtain ⟨hx, hb, hr, hml, hown, hts, hlocks, hN, hK, hA⟩ := id C
  have hl : lv_has ls 4 [(0, .float a0)] := hl
  obtain ⟨H, hH⟩ : ∃ H, H = s.heap := ⟨_, rfl⟩
  rw [← hH] at hP
  have hS : va_S A s.heap H [] := by rw [hH]; exact hS
  suffices hgoal : W p l e ({ frames := 0, cells := 0, slots := 0, locals := 0 } : Room) s m #[.float a0] below meth c H [] 0 0 (MQ below (lw_Qi D cI cZ A (fun u : Unit => []) post) #[.float a0] s 0 0 A) (F0 m 0 ls []) by rw [hH] at hgoal; exact hgoal
  obtain ⟨locs, hlo⟩ : ∃ locs : List Loc, locs = [] := ⟨_, rfl⟩
  rw [← hlo] at hS ⊢
  rw [vc_X4_bitsOf] at hv
  refine lv_fload_n hx hb dX4_bitsOf_0 rfl (lv_at hl 0 rfl) ?_
  refine lv_fconst0 hx hb dX4_bitsOf_1 ?_
  refine lv_fcmp hx hb dX4_bitsOf_2 ?_
  refine lv_if_gt (tgt := 8) hx hb dX4_bitsOf_3 (by decide) (fun c9 => ?_) (fun c9 => ?_)
  · have hv := hv.1 c9
    refine lv_bipush (v := 127) hx hb dX4_bitsOf_8 (by decide) ?_
    refine lv_istore_n (lv' := [(1, .int 127), (0, .float a0)]) hx hb dX4_bitsOf_10 rfl hl (by decide) rfl (fun ls hl => ?_)
    refine lv_fload_n hx hb dX4_bitsOf_11 rfl (lv_at hl 1 rfl) ?_
    refine lv_fstore_n (lv' := [(2, .float a0), (1, .int 127), (0, .float a0)]) hx hb dX4_bitsOf_12 rfl hl (by decide) rfl (fun ls hl => ?_)
    refine lv_iconst (v := 0) hx hb dX4_bitsOf_13 (by decide) ?_
    refine lv_istore_n (lv' := [(3, .int 0), (2, .float a0), (1, .int 127), (0, .float a0)]) hx hb dX4_bitsOf_14 rfl hl (by decide) rfl (fun ls hl => ?_)
    obtain ⟨n_16, hv⟩ := hv
    refine w_X4_bitsOf_L15  C _ (fun k1_5 k2_6 H locs ls hv hP hD hS hl => ?_) n_16 127 a0 0 H locs ls hv hP hD hS (lv_sub hl [2, 1, 0] rfl)
    refine lv_iconst (v := 0) hx hb dX4_bitsOf_42 (by decide) ?_
    refine lv_istore_n (lv' := [(3, .int 0), (1, .int k1_5), (2, .float k2_6)]) hx hb dX4_bitsOf_43 rfl hl (by decide) rfl (fun ls hl => ?_)
    obtain ⟨n_15, hv⟩ := hv
    refine w_X4_bitsOf_L44  C _ (fun k1_11 k2_12 H locs ls hv hP hD hS hl => ?_) n_15 k1_5 k2_6 0 H locs ls hv hP hD hS (lv_sub hl [1, 2, 0] rfl)
    refine lv_fload_n hx hb dX4_bitsOf_69 rfl (lv_at hl 1 rfl) ?_
    refine lv_ldcf (v := 1258291200) hx hb hown (hts _ kw_362) dX4_bitsOf_70 ?_
    obtain ⟨hn_13, hv⟩ := hv
    refine lv_fmul hx hb dX4_bitsOf_72 hn_13 ?_
    refine lv_f2i hx hb dX4_bitsOf_73 ?_
    refine lv_ldc (v := 8388608) hx hb hown (hts _ kw_363) dX4_bitsOf_74 ?_
    refine lv_isub hx hb dX4_bitsOf_76 ?_
    refine lv_topi (fun x3_14 ex3_14 => ?_)
    have hv := hv x3_14 ex3_14
    refine lv_istore_n (lv' := [(3, .int x3_14), (1, .int k1_11), (2, .float k2_12)]) hx hb dX4_bitsOf_77 rfl hl (by decide) rfl (fun ls hl => ?_)
    refine lv_iload_n hx hb dX4_bitsOf_78 rfl (lv_at hl 1 rfl) ?_
    refine lv_bipush (v := 23) hx hb dX4_bitsOf_79 (by decide) ?_
    refine lv_ishl hx hb dX4_bitsOf_81 ?_
    refine lv_iload_n hx hb dX4_bitsOf_82 rfl (lv_at hl 0 rfl) ?_
    refine lv_iadd hx hb dX4_bitsOf_83 ?_
    exact lw_iret C () hv hP hD hS dX4_bitsOf_84
  · have hv := hv.2 c9
    refine lv_iconst (v := 0) hx hb dX4_bitsOf_6 (by decide) ?_
    exact lw_iret C () hv hP hD hS dX4_bitsOf_7

def vc_Jxf58ca_isNaN_12338 (a0 : UInt32) (post : Int32 → Unit → Prop) : Prop :=
  (((Op.cmpValue (FP.fcmp a0 a0) CmpOp.l) = 0 → post 0 ()) ∧ (¬ (Op.cmpValue (FP.fcmp a0 a0) CmpOp.l) = 0 → post 1 ()))

set_option maxHeartbeats 4000000 in
set_option maxRecDepth 100000 in
theorem m_Jxf58ca_isNaN_12338 (l : Launch) (D : va_G) (cI cZ : ClassId)  (a0 : UInt32) (sz : Nat) {post : Int32 → Unit → Prop} (hv : vc_Jxf58ca_isNaN_12338 a0 post) :
    Met l yJxf58ca_isNaN_12338 (Cond.code yJxf58ca_isNaN_12338 cJxf58ca_isNaN_12338 1 (some .boolean) :: lw_good) ({ frames := 0, cells := 0, slots := 0, locals := 0 } : Room) (va_Pc [.float a0] (lw_B D cI cZ [] sz)) (lw_Qi D cI cZ (va_A [] sz) (fun u : Unit => []) post) 0 0 (va_A [] sz) := by
  refine lw_metF (Q := fun A => lw_Qi D cI cZ A (fun u : Unit => []) post) (by decide +kernel) (Nat.le_of_ble_eq_true rfl) ?_
  intro p e s m below meth c A C hnm hP hD hS ls hl
  have C : lw_Cx D cI cZ p s m _ meth c cJxf58ca_isNaN_12338 1 (some .boolean) RJxf58ca A := C
  obtain ⟨hx, hb, hr, hml, hown, hts, hlocks, hN, hK, hA⟩ := id C
  have hl : lv_has ls 1 [(0, .float a0)] := hl
  obtain ⟨H, hH⟩ : ∃ H, H = s.heap := ⟨_, rfl⟩
  rw [← hH] at hP
  have hS : va_S A s.heap H [] := by rw [hH]; exact hS
  suffices hgoal : W p l e ({ frames := 0, cells := 0, slots := 0, locals := 0 } : Room) s m #[.float a0] below meth c H [] 0 0 (MQ below (lw_Qi D cI cZ A (fun u : Unit => []) post) #[.float a0] s 0 0 A) (F0 m 0 ls []) by rw [hH] at hgoal; exact hgoal
  obtain ⟨locs, hlo⟩ : ∃ locs : List Loc, locs = [] := ⟨_, rfl⟩
  rw [← hlo] at hS ⊢
  rw [vc_Jxf58ca_isNaN_12338] at hv
  refine lv_fload_n hx hb dJxf58ca_isNaN_12338_0 rfl (lv_at hl 0 rfl) ?_
  refine lv_fload_n hx hb dJxf58ca_isNaN_12338_1 rfl (lv_at hl 0 rfl) ?_
  refine lv_fcmp hx hb dJxf58ca_isNaN_12338_2 ?_
  refine lv_if_eq (tgt := 10) hx hb dJxf58ca_isNaN_12338_3 (by decide) (fun c9 => ?_) (fun c9 => ?_)
  · have hv := hv.1 c9
    refine lv_iconst (v := 0) hx hb dJxf58ca_isNaN_12338_10 (by decide) ?_
    exact lw_zret C () rfl hv hP hD hS dJxf58ca_isNaN_12338_11
  · have hv := hv.2 c9
    refine lv_iconst (v := 1) hx hb dJxf58ca_isNaN_12338_6 (by decide) ?_
    refine lv_goto (tgt := 11) hx hb dJxf58ca_isNaN_12338_7 (by decide) ?_
    exact lw_zret C () rfl hv hP hD hS dJxf58ca_isNaN_12338_11

def vc_Jxf58ca_floatToIntBits_5c35a (a0 : UInt32) (post : Int32 → Unit → Prop) : Prop :=
  (vc_Jxf58ca_isNaN_12338 a0 (fun (r_2 : Int32) (u_1 : Unit) => ((¬ r_2 = 0 → post (2143289344 : Int32) ()) ∧ (r_2 = 0 → post (UInt32.toInt32 a0) ()))))

set_option maxHeartbeats 4000000 in
set_option maxRecDepth 100000 in
theorem m_Jxf58ca_floatToIntBits_5c35a (l : Launch) (D : va_G) (cI cZ : ClassId)  (a0 : UInt32) (sz : Nat) {post : Int32 → Unit → Prop} (hv : vc_Jxf58ca_floatToIntBits_5c35a a0 post) :
    Met l yJxf58ca_floatToIntBits_5c35a (Cond.code yJxf58ca_floatToIntBits_5c35a cJxf58ca_floatToIntBits_5c35a 1 (some .int) :: lw_good) ({ frames := 1, cells := 0, slots := 0, locals := 20 } : Room) (va_Pc [.float a0] (lw_B D cI cZ [] sz)) (lw_Qi D cI cZ (va_A [] sz) (fun u : Unit => []) post) 0 0 (va_A [] sz) := by
  refine lw_metF (Q := fun A => lw_Qi D cI cZ A (fun u : Unit => []) post) (by decide +kernel) (Nat.le_of_ble_eq_true rfl) ?_
  intro p e s m below meth c A C hnm hP hD hS ls hl
  have C : lw_Cx D cI cZ p s m _ meth c cJxf58ca_floatToIntBits_5c35a 1 (some .int) RJxf58ca A := C
  obtain ⟨hx, hb, hr, hml, hown, hts, hlocks, hN, hK, hA⟩ := id C
  have hl : lv_has ls 1 [(0, .float a0)] := hl
  obtain ⟨H, hH⟩ : ∃ H, H = s.heap := ⟨_, rfl⟩
  rw [← hH] at hP
  have hS : va_S A s.heap H [] := by rw [hH]; exact hS
  suffices hgoal : W p l e ({ frames := 1, cells := 0, slots := 0, locals := 20 } : Room) s m #[.float a0] below meth c H [] 0 0 (MQ below (lw_Qi D cI cZ A (fun u : Unit => []) post) #[.float a0] s 0 0 A) (F0 m 0 ls []) by rw [hH] at hgoal; exact hgoal
  obtain ⟨locs, hlo⟩ : ∃ locs : List Loc, locs = [] := ⟨_, rfl⟩
  rw [← hlo] at hS ⊢
  rw [vc_Jxf58ca_floatToIntBits_5c35a] at hv
  refine lv_fload_n hx hb dJxf58ca_floatToIntBits_5c35a_0 rfl (lv_at hl 0 rfl) ?_
  refine lw_calli (wr := []) C (lw_runS (own := RJxf58ca) (n := 1) C hP hD [] rfl rfl (m_Jxf58ca_isNaN_12338 l D cI cZ a0 H.size hv) kw_684 kw_682 kw_683 kw_77 (by decide +kernel) rfl ⟨rfl, rfl, Nat.le_of_ble_eq_true rfl, Nat.le_of_ble_eq_true rfl, Nat.le_of_ble_eq_true rfl, Nat.le_of_ble_eq_true rfl⟩ hl.1 rfl (Nat.le_of_ble_eq_true rfl) dJxf58ca_floatToIntBits_5c35a_1) hP hD hS [] [] rfl rfl rfl (by decide +kernel) (fun r_2 u_1 H locs hv hP hD hS => ?_)
  have hP : va_P D vwCl [] H := hP
  have hD : va_D A [] := hD
  refine lv_if_ne (tgt := 12) hx hb dJxf58ca_floatToIntBits_5c35a_4 (by decide) (fun c9 => ?_) (fun c9 => ?_)
  · have hv := hv.1 c9
    refine lv_ldc (v := 2143289344) hx hb hown (hts _ kw_688) dJxf58ca_floatToIntBits_5c35a_12 ?_
    exact lw_iret C () hv hP hD hS dJxf58ca_floatToIntBits_5c35a_14
  · have hv := hv.2 c9
    refine lv_fload_n hx hb dJxf58ca_floatToIntBits_5c35a_7 rfl (lv_at hl 0 rfl) ?_
    refine vn_f2i hx hb (hml.trans hl.1.symm) hown (hts _ kw_685) (hts _ kw_687) (hts _ kw_686) (hts _ kw_77) (Nat.le_of_ble_eq_true rfl) (Nat.le_of_ble_eq_true rfl) dJxf58ca_floatToIntBits_5c35a_8 ?_
    exact lw_iret C () hv hP hD hS dJxf58ca_floatToIntBits_5c35a_11
