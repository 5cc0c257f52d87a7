def vc_X4_isWithin (a0 : Int32) (a1 : Int32) (a2 : Int32) (post : Int32 → Unit → Prop) : Prop :=
  ((a0 < a1 → post 0 ()) ∧ (¬ a0 < a1 → ((a2 < a0 → post 0 ()) ∧ (¬ a2 < a0 → post 1 ()))))

set_option maxHeartbeats 4000000 in
set_option maxRecDepth 100000 in
theorem m_X4_isWithin (l : Launch) (D : va_G) (cI cZ : ClassId)  (a0 : Int32) (a1 : Int32) (a2 : Int32) (sz : Nat) {post : Int32 → Unit → Prop} (hv : vc_X4_isWithin a0 a1 a2 post) :
    Met l yX4_isWithin (Cond.code yX4_isWithin cX4_isWithin 3 (some .boolean) :: lw_good) ({ frames := 0, cells := 0, slots := 0, locals := 0 } : Room) (va_Pc [.int a0, .int a1, .int a2] (lw_B D cI cZ [] sz)) (lw_Qi D cI cZ (va_A [] sz) (fun u : Unit => []) post) 0 0 (va_A [] sz) := by
  refine lw_met (Q := fun A => lw_Qi D cI cZ A (fun u : Unit => []) post) (by decide) (Nat.le_of_ble_eq_true rfl) ?_
  intro p e s m below meth c A C hnm hP hD hS ls hl
  have C : lw_Cx D cI cZ p s m _ meth c cX4_isWithin 3 (some .boolean) RX4 A := C
  obtain ⟨hx, hb, hr, hml, hown, hts, hlocks, hN, hK, hA⟩ := id C
  have hl : lv_has ls 3 [(0, .int a0), (1, .int a1), (2, .int a2)] := hl
  obtain ⟨H, hH⟩ : ∃ H, H = s.heap := ⟨_, rfl⟩
  rw [← hH] at hP
  have hS : va_S A s.heap H [] := by rw [hH]; exact hS
  suffices hgoal : W p l e ({ frames := 0, cells := 0, slots := 0, locals := 0 } : Room) s m _ below meth c H [] 0 0 (MQ below (lw_Qi D cI cZ A (fun u : Unit => []) post) _ s 0 0 A) (F0 m 0 ls []) by rw [hH] at hgoal; exact hgoal
  obtain ⟨locs, hlo⟩ : ∃ locs : List Loc, locs = [] := ⟨_, rfl⟩
  rw [← hlo] at hS ⊢
  rw [vc_X4_isWithin] at hv
  refine lv_iload_n hx hb dX4_isWithin_0 rfl (lv_at hl 0 rfl) ?_
  refine lv_iload_n hx hb dX4_isWithin_1 rfl (lv_at hl 1 rfl) ?_
  refine lv_icmp_lt (tgt := 14) hx hb dX4_isWithin_2 (by decide) (fun c9 => ?_) (fun c9 => ?_)
  · have hv := hv.1 c9
    refine lv_iconst (v := 0) hx hb dX4_isWithin_14 (by decide) ?_
    exact lw_zret C () rfl hv hP hD hS dX4_isWithin_15
  · have hv := hv.2 c9
    refine lv_iload_n hx hb dX4_isWithin_5 rfl (lv_at hl 0 rfl) ?_
    refine lv_iload_n hx hb dX4_isWithin_6 rfl (lv_at hl 2 rfl) ?_
    refine lv_icmp_gt (tgt := 14) hx hb dX4_isWithin_7 (by decide) (fun c9 => ?_) (fun c9 => ?_)
    · have hv := hv.1 c9
      refine lv_iconst (v := 0) hx hb dX4_isWithin_14 (by decide) ?_
      exact lw_zret C () rfl hv hP hD hS dX4_isWithin_15
    · have hv := hv.2 c9
      refine lv_iconst (v := 1) hx hb dX4_isWithin_10 (by decide) ?_
      refine lv_goto (tgt := 15) hx hb dX4_isWithin_11 (by decide) ?_
      exact lw_zret C () rfl hv hP hD hS dX4_isWithin_15

def vc_X4_isRoom (a0 : Int32) (post : Int32 → Unit → Prop) : Prop :=
  (vc_X4_isWithin a0 0 5 (fun (r_2 : Int32) (u_1 : Unit) => (narrow .boolean (.int r_2) = .int r_2 ∧ post r_2 ())))

set_option maxHeartbeats 4000000 in
set_option maxRecDepth 100000 in
theorem m_X4_isRoom (l : Launch) (D : va_G) (cI cZ : ClassId)  (a0 : Int32) (sz : Nat) {post : Int32 → Unit → Prop} (hv : vc_X4_isRoom a0 post) :
    Met l yX4_isRoom (Cond.code yX4_isRoom cX4_isRoom 1 (some .boolean) :: lw_good) ({ frames := 1, cells := 0, slots := 0, locals := 22 } : Room) (va_Pc [.int a0] (lw_B D cI cZ [] sz)) (lw_Qi D cI cZ (va_A [] sz) (fun u : Unit => []) post) 0 0 (va_A [] sz) := by
  refine lw_met (Q := fun A => lw_Qi D cI cZ A (fun u : Unit => []) post) (by decide) (Nat.le_of_ble_eq_true rfl) ?_
  intro p e s m below meth c A C hnm hP hD hS ls hl
  have C : lw_Cx D cI cZ p s m _ meth c cX4_isRoom 1 (some .boolean) RX4 A := C
  obtain ⟨hx, hb, hr, hml, hown, hts, hlocks, hN, hK, hA⟩ := id C
  have hl : lv_has ls 1 [(0, .int a0)] := hl
  obtain ⟨H, hH⟩ : ∃ H, H = s.heap := ⟨_, rfl⟩
  rw [← hH] at hP
  have hS : va_S A s.heap H [] := by rw [hH]; exact hS
  suffices hgoal : W p l e ({ frames := 1, cells := 0, slots := 0, locals := 22 } : Room) s m _ below meth c H [] 0 0 (MQ below (lw_Qi D cI cZ A (fun u : Unit => []) post) _ s 0 0 A) (F0 m 0 ls []) by rw [hH] at hgoal; exact hgoal
  obtain ⟨locs, hlo⟩ : ∃ locs : List Loc, locs = [] := ⟨_, rfl⟩
  rw [← hlo] at hS ⊢
  rw [vc_X4_isRoom] at hv
  refine lv_iload_n hx hb dX4_isRoom_0 rfl (lv_at hl 0 rfl) ?_
  refine lv_iconst (v := 0) hx hb dX4_isRoom_1 (by decide) ?_
  refine lv_iconst (v := 5) hx hb dX4_isRoom_2 (by decide) ?_
  refine lw_calli C (lw_runS (own := RX4) C hP hD [] rfl rfl (m_X4_isWithin l D cI cZ a0 0 5 H.size hv) kw_277 kw_275 kw_276 kw_68 (by decide +kernel) rfl ⟨rfl, rfl, Nat.le_of_ble_eq_true rfl, Nat.le_of_ble_eq_true rfl, Nat.le_of_ble_eq_true rfl, Nat.le_of_ble_eq_true rfl⟩ hl.1 rfl (Nat.le_of_ble_eq_true rfl) dX4_isRoom_3) hP hD hS [] [] rfl rfl rfl (by decide +kernel) (fun r_2 u_1 H locs hv hP hD hS => ?_)
  have hP : va_P D vwCl [] H := hP
  have hD : va_D A [] := hD
  exact lw_zret C () hv.1 hv.2 hP hD hS dX4_isRoom_6

def vc_X4_isIn (a0 : Int32) (a1 : Int32) (post : Int32 → Unit → Prop) : Prop :=
  ((¬ ((a0 >>> (a1 &&& 31)) &&& 1) = 1 → post 0 ()) ∧ (((a0 >>> (a1 &&& 31)) &&& 1) = 1 → post 1 ()))

set_option maxHeartbeats 4000000 in
set_option maxRecDepth 100000 in
theorem m_X4_isIn (l : Launch) (D : va_G) (cI cZ : ClassId)  (a0 : Int32) (a1 : Int32) (sz : Nat) {post : Int32 → Unit → Prop} (hv : vc_X4_isIn a0 a1 post) :
    Met l yX4_isIn (Cond.code yX4_isIn cX4_isIn 2 (some .boolean) :: lw_good) ({ frames := 0, cells := 0, slots := 0, locals := 0 } : Room) (va_Pc [.int a0, .int a1] (lw_B D cI cZ [] sz)) (lw_Qi D cI cZ (va_A [] sz) (fun u : Unit => []) post) 0 0 (va_A [] sz) := by
  refine lw_met (Q := fun A => lw_Qi D cI cZ A (fun u : Unit => []) post) (by decide) (Nat.le_of_ble_eq_true rfl) ?_
  intro p e s m below meth c A C hnm hP hD hS ls hl
  have C : lw_Cx D cI cZ p s m _ meth c cX4_isIn 2 (some .boolean) RX4 A := C
  obtain ⟨hx, hb, hr, hml, hown, hts, hlocks, hN, hK, hA⟩ := id C
  have hl : lv_has ls 2 [(0, .int a0), (1, .int a1)] := hl
  obtain ⟨H, hH⟩ : ∃ H, H = s.heap := ⟨_, rfl⟩
  rw [← hH] at hP
  have hS : va_S A s.heap H [] := by rw [hH]; exact hS
  suffices hgoal : W p l e ({ frames := 0, cells := 0, slots := 0, locals := 0 } : Room) s m _ below meth c H [] 0 0 (MQ below (lw_Qi D cI cZ A (fun u : Unit => []) post) _ s 0 0 A) (F0 m 0 ls []) by rw [hH] at hgoal; exact hgoal
  obtain ⟨locs, hlo⟩ : ∃ locs : List Loc, locs = [] := ⟨_, rfl⟩
  rw [← hlo] at hS ⊢
  rw [vc_X4_isIn] at hv
  refine lv_iload_n hx hb dX4_isIn_0 rfl (lv_at hl 0 rfl) ?_
  refine lv_iload_n hx hb dX4_isIn_1 rfl (lv_at hl 1 rfl) ?_
  refine lv_ishr hx hb dX4_isIn_2 ?_
  refine lv_iconst (v := 1) hx hb dX4_isIn_3 (by decide) ?_
  refine lv_iand hx hb dX4_isIn_4 ?_
  refine lv_iconst (v := 1) hx hb dX4_isIn_5 (by decide) ?_
  refine lv_icmp_ne (tgt := 13) hx hb dX4_isIn_6 (by decide) (fun c9 => ?_) (fun c9 => ?_)
  · have hv := hv.1 c9
    refine lv_iconst (v := 0) hx hb dX4_isIn_13 (by decide) ?_
    exact lw_zret C () rfl hv hP hD hS dX4_isIn_14
  · have hv := hv.2 c9
    refine lv_iconst (v := 1) hx hb dX4_isIn_9 (by decide) ?_
    refine lv_goto (tgt := 14) hx hb dX4_isIn_10 (by decide) ?_
    exact lw_zret C () rfl hv hP hD hS dX4_isIn_14

def vc_X0_reach_L16 (K : (Nat → Int32) → Prop) (b1 : Int32) (b2 : Int32) (b4 : Int32) : Nat → Int32 → (Nat → Int32) → Prop
  | 0, _, _ => False
  | n + 1, v5, f_step =>
    ((b2 ≤ v5 → K f_step) ∧ (¬ b2 ≤ v5 → (vp_in (b4 + v5) 366 ∧ (∀ x5_5 : Int32, x5_5 = v5 + 1 → vc_X0_reach_L16 K b1 b2 b4 n x5_5 (upd f_step ((b4 + v5)).toNatClampNeg (b1 + 1))))))

set_option maxHeartbeats 4000000 in
set_option maxRecDepth 100000 in
theorem w_X0_reach_L16 {p : Program} {l : Launch} {e : Env} {s : State} {m : MethodId} {args : Array Value} {below : List Frame} {meth : Method} {c : Code} {D : va_G} {cI cZ : ClassId} {A : Nat → Prop} {Q : State → Prop} (fh f1 f2 f3 f4 f5 f9 f10 f11 f12 f13 f14 : Nat) (b1 : Int32) (b2 : Int32) (b3 : Int32) (b4 : Int32) (f_lanes : Int32) (f_from : (Nat → Int32)) (f_to : (Nat → Int32)) (f_width : (Nat → Int32)) (f_length : (Nat → Int32)) (f_shut : (Nat → Int32)) (f_safeRooms : Int32) (f_people : Int32) (f_led : Int32) (f_notLed : (Nat → Int32)) (f_entering : (Nat → Int32)) (f_latest : (Nat → Int32)) (f_wayEntry : (Nat → Int32)) (f_wayAhead : (Nat → Int32)) (f_waySteps : Int32) (f_wayWidth : Int32) (C : lw_Cx D cI cZ p s m args meth c cX0_reach 6 none RX0 A) (K : (Nat → Int32) → Prop) (hKx : ∀ (k_f_step : (Nat → Int32)) (H : Heap) (locs : List Loc) (ls : Array Slot), K k_f_step → va_P D vwCl [(fh, .inr (0, [.int f_lanes, .ref f1, .ref f2, .ref f3, .ref f4, .ref f5, .int f_safeRooms, .int f_people, .int f_led, .ref f9, .ref f10, .ref f11, .ref f12, .ref f13, .ref f14, .int f_waySteps, .int f_wayWidth])), (f1, .inl (cI, 16, .inl f_from)), (f2, .inl (cI, 16, .inl f_to)), (f3, .inl (cI, 16, .inl f_width)), (f4, .inl (cI, 16, .inl f_length)), (f5, .inl (cI, 16, .inl f_shut)), (f9, .inl (cI, 6, .inl f_notLed)), (f10, .inl (cI, 976, .inl f_entering)), (f11, .inl (cI, 6, .inl f_latest)), (f12, .inl (cI, 366, .inl k_f_step)), (f13, .inl (cI, 366, .inl f_wayEntry)), (f14, .inl (cZ, 366, .inl f_wayAhead))] H → va_D A [(fh, .inr (0, [.int f_lanes, .ref f1, .ref f2, .ref f3, .ref f4, .ref f5, .int f_safeRooms, .int f_people, .int f_led, .ref f9, .ref f10, .ref f11, .ref f12, .ref f13, .ref f14, .int f_waySteps, .int f_wayWidth])), (f1, .inl (cI, 16, .inl f_from)), (f2, .inl (cI, 16, .inl f_to)), (f3, .inl (cI, 16, .inl f_width)), (f4, .inl (cI, 16, .inl f_length)), (f5, .inl (cI, 16, .inl f_shut)), (f9, .inl (cI, 6, .inl f_notLed)), (f10, .inl (cI, 976, .inl f_entering)), (f11, .inl (cI, 6, .inl f_latest)), (f12, .inl (cI, 366, .inl k_f_step)), (f13, .inl (cI, 366, .inl f_wayEntry)), (f14, .inl (cZ, 366, .inl f_wayAhead))] → va_S A s.heap H locs → lv_has ls 6 [(0, .ref fh), (1, .int b1), (2, .int b2), (3, .int b3), (4, .int b4)] → W p l e ({ frames := 0, cells := 0, slots := 0, locals := 0 } : Room) s m args below meth c H locs 0 0 Q (F0 m 41 ls [])) :
    ∀ (n : Nat) (v5 : Int32) (f_step : (Nat → Int32)) (H : Heap) (locs : List Loc) (ls : Array Slot), vc_X0_reach_L16 K b1 b2 b4 n v5 f_step → va_P D vwCl [(fh, .inr (0, [.int f_lanes, .ref f1, .ref f2, .ref f3, .ref f4, .ref f5, .int f_safeRooms, .int f_people, .int f_led, .ref f9, .ref f10, .ref f11, .ref f12, .ref f13, .ref f14, .int f_waySteps, .int f_wayWidth])), (f1, .inl (cI, 16, .inl f_from)), (f2, .inl (cI, 16, .inl f_to)), (f3, .inl (cI, 16, .inl f_width)), (f4, .inl (cI, 16, .inl f_length)), (f5, .inl (cI, 16, .inl f_shut)), (f9, .inl (cI, 6, .inl f_notLed)), (f10, .inl (cI, 976, .inl f_entering)), (f11, .inl (cI, 6, .inl f_latest)), (f12, .inl (cI, 366, .inl f_step)), (f13, .inl (cI, 366, .inl f_wayEntry)), (f14, .inl (cZ, 366, .inl f_wayAhead))] H → va_D A [(fh, .inr (0, [.int f_lanes, .ref f1, .ref f2, .ref f3, .ref f4, .ref f5, .int f_safeRooms, .int f_people, .int f_led, .ref f9, .ref f10, .ref f11, .ref f12, .ref f13, .ref f14, .int f_waySteps, .int f_wayWidth])), (f1, .inl (cI, 16, .inl f_from)), (f2, .inl (cI, 16, .inl f_to)), (f3, .inl (cI, 16, .inl f_width)), (f4, .inl (cI, 16, .inl f_length)), (f5, .inl (cI, 16, .inl f_shut)), (f9, .inl (cI, 6, .inl f_notLed)), (f10, .inl (cI, 976, .inl f_entering)), (f11, .inl (cI, 6, .inl f_latest)), (f12, .inl (cI, 366, .inl f_step)), (f13, .inl (cI, 366, .inl f_wayEntry)), (f14, .inl (cZ, 366, .inl f_wayAhead))] → va_S A s.heap H locs → lv_has ls 6 [(0, .ref fh), (1, .int b1), (2, .int b2), (3, .int b3), (4, .int b4), (5, .int v5)] → W p l e ({ frames := 0, cells := 0, slots := 0, locals := 0 } : Room) s m args below meth c H locs 0 0 Q (F0 m 16 ls []) := by
  obtain ⟨hx, hb, hr, hml, hown, hts, hlocks, hN, hK, hA⟩ := id C
  intro n
  induction n with
  | zero =>
    intro v5 f_step H locs ls hv
    exact False.elim hv
  | succ n ih =>
    intro v5 f_step H locs ls hv hP hD hS hl
    rw [vc_X0_reach_L16] at hv
    refine lv_iload hx hb dX0_reach_16 (lv_at hl 5 rfl) ?_
    refine lv_iload_n hx hb dX0_reach_18 rfl (lv_at hl 2 rfl) ?_
    refine lv_icmp_ge (tgt := 41) hx hb dX0_reach_19 (by decide) (fun c9 => ?_) (fun c9 => ?_)
    · have hv := hv.1 c9
      exact hKx f_step H locs ls hv hP hD hS (lv_sub hl [0, 1, 2, 3, 4] rfl)
    · have hv := hv.2 c9
      refine lv_aload_n hx hb dX0_reach_22 rfl (lv_at hl 0 rfl) ?_
      refine va_get (D := D) (ci := 0) (v := .ref f12) (C := RX0) (T := TX0) (N := 17) hx hb hts iX0 hown hK hP 0 rfl rfl 12 (by decide) (hts _ kw_183) (fun _ h9 => h9) rfl dX0_reach_23 ?_
      refine lv_iload hx hb dX0_reach_26 (lv_at hl 4 rfl) ?_
      refine lv_iload hx hb dX0_reach_28 (lv_at hl 5 rfl) ?_
      refine lv_iadd hx hb dX0_reach_30 ?_
      refine lv_iload_n hx hb dX0_reach_31 rfl (lv_at hl 1 rfl) ?_
      refine lv_iconst (v := 1) hx hb dX0_reach_32 (by decide) ?_
      refine lv_iadd hx hb dX0_reach_33 ?_
      obtain ⟨hi_4, hv⟩ := hv
      refine va_iast hx hb hK hP hD hS 9 0 rfl rfl hi_4 dX0_reach_34 (fun H locs hP hD hS => ?_)
      have hP : va_P D vwCl [(fh, .inr (0, [.int f_lanes, .ref f1, .ref f2, .ref f3, .ref f4, .ref f5, .int f_safeRooms, .int f_people, .int f_led, .ref f9, .ref f10, .ref f11, .ref f12, .ref f13, .ref f14, .int f_waySteps, .int f_wayWidth])), (f1, .inl (cI, 16, .inl f_from)), (f2, .inl (cI, 16, .inl f_to)), (f3, .inl (cI, 16, .inl f_width)), (f4, .inl (cI, 16, .inl f_length)), (f5, .inl (cI, 16, .inl f_shut)), (f9, .inl (cI, 6, .inl f_notLed)), (f10, .inl (cI, 976, .inl f_entering)), (f11, .inl (cI, 6, .inl f_latest)), (f12, .inl (cI, 366, .inl (upd f_step ((b4 + v5)).toNatClampNeg (b1 + 1)))), (f13, .inl (cI, 366, .inl f_wayEntry)), (f14, .inl (cZ, 366, .inl f_wayAhead))] H := hP
      have hD : va_D A [(fh, .inr (0, [.int f_lanes, .ref f1, .ref f2, .ref f3, .ref f4, .ref f5, .int f_safeRooms, .int f_people, .int f_led, .ref f9, .ref f10, .ref f11, .ref f12, .ref f13, .ref f14, .int f_waySteps, .int f_wayWidth])), (f1, .inl (cI, 16, .inl f_from)), (f2, .inl (cI, 16, .inl f_to)), (f3, .inl (cI, 16, .inl f_width)), (f4, .inl (cI, 16, .inl f_length)), (f5, .inl (cI, 16, .inl f_shut)), (f9, .inl (cI, 6, .inl f_notLed)), (f10, .inl (cI, 976, .inl f_entering)), (f11, .inl (cI, 6, .inl f_latest)), (f12, .inl (cI, 366, .inl (upd f_step ((b4 + v5)).toNatClampNeg (b1 + 1)))), (f13, .inl (cI, 366, .inl f_wayEntry)), (f14, .inl (cZ, 366, .inl f_wayAhead))] := hD
      obtain ⟨x5_5, ex5_5⟩ : ∃ y : Int32, y = v5 + 1 := ⟨_, rfl⟩
      have hv := hv x5_5 ex5_5
      refine lv_iinc (v := x5_5) (lv' := [(5, .int x5_5), (0, .ref fh), (1, .int b1), (2, .int b2), (3, .int b3), (4, .int b4)]) hx hb dX0_reach_35 hl (k := 5) rfl (by rw [ex5_5]; rfl) (by decide) rfl (fun ls hl => ?_)
      refine lv_goto (tgt := 16) hx hb dX0_reach_38 (by decide) ?_
      exact ih x5_5 (upd f_step ((b4 + v5)).toNatClampNeg (b1 + 1)) H locs ls hv hP hD hS (lv_sub hl [1, 2, 3, 4, 5, 0] rfl)

def vc_X0_reach (a1 : Int32) (a2 : Int32) (a3 : Int32) (f_latest : (Nat → Int32)) (f_step : (Nat → Int32)) (post : ((Nat → Int32) × (Nat → Int32)) → Prop) : Prop :=
  (∀ x4_1 : Int32, x4_1 = (a1 * 61) → (vp_in a1 6 ∧ (∀ x5_3 : Int32, x5_3 = ((f_latest a1.toNatClampNeg) + 1) → (∃ n_9, vc_X0_reach_L16 (fun f_step_6 => (vp_in (x4_1 + a2) 366 ∧ (vp_in a1 6 ∧ post ((upd f_latest a1.toNatClampNeg a2), (upd f_step_6 ((x4_1 + a2)).toNatClampNeg a3)))))  a1 a2 x4_1 n_9 x5_3 f_step))))

set_option maxHeartbeats 4000000 in
set_option maxRecDepth 100000 in
theorem m_X0_reach (l : Launch) (D : va_G) (cI cZ : ClassId) (fh f1 f2 f3 f4 f5 f9 f10 f11 f12 f13 f14 : Nat) (a1 : Int32) (a2 : Int32) (a3 : Int32) (f_lanes : Int32) (f_from : (Nat → Int32)) (f_to : (Nat → Int32)) (f_width : (Nat → Int32)) (f_length : (Nat → Int32)) (f_shut : (Nat → Int32)) (f_safeRooms : Int32) (f_people : Int32) (f_led : Int32) (f_notLed : (Nat → Int32)) (f_entering : (Nat → Int32)) (f_latest : (Nat → Int32)) (f_step : (Nat → Int32)) (f_wayEntry : (Nat → Int32)) (f_wayAhead : (Nat → Int32)) (f_waySteps : Int32) (f_wayWidth : Int32) (sz : Nat) {post : ((Nat → Int32) × (Nat → Int32)) → Prop} (hv : vc_X0_reach a1 a2 a3 f_latest f_step post) :
    Met l yX0_reach (Cond.code yX0_reach cX0_reach 6 none :: lw_good) ({ frames := 0, cells := 0, slots := 0, locals := 0 } : Room) (va_Pc [.ref fh, .int a1, .int a2, .int a3] (lw_B D cI cZ [(fh, .inr (0, [.int f_lanes, .ref f1, .ref f2, .ref f3, .ref f4, .ref f5, .int f_safeRooms, .int f_people, .int f_led, .ref f9, .ref f10, .ref f11, .ref f12, .ref f13, .ref f14, .int f_waySteps, .int f_wayWidth])), (f1, .inl (cI, 16, .inl f_from)), (f2, .inl (cI, 16, .inl f_to)), (f3, .inl (cI, 16, .inl f_width)), (f4, .inl (cI, 16, .inl f_length)), (f5, .inl (cI, 16, .inl f_shut)), (f9, .inl (cI, 6, .inl f_notLed)), (f10, .inl (cI, 976, .inl f_entering)), (f11, .inl (cI, 6, .inl f_latest)), (f12, .inl (cI, 366, .inl f_step)), (f13, .inl (cI, 366, .inl f_wayEntry)), (f14, .inl (cZ, 366, .inl f_wayAhead))] sz)) (lw_Qv D cI cZ (va_A [(fh, .inr (0, [.int f_lanes, .ref f1, .ref f2, .ref f3, .ref f4, .ref f5, .int f_safeRooms, .int f_people, .int f_led, .ref f9, .ref f10, .ref f11, .ref f12, .ref f13, .ref f14, .int f_waySteps, .int f_wayWidth])), (f1, .inl (cI, 16, .inl f_from)), (f2, .inl (cI, 16, .inl f_to)), (f3, .inl (cI, 16, .inl f_width)), (f4, .inl (cI, 16, .inl f_length)), (f5, .inl (cI, 16, .inl f_shut)), (f9, .inl (cI, 6, .inl f_notLed)), (f10, .inl (cI, 976, .inl f_entering)), (f11, .inl (cI, 6, .inl f_latest)), (f12, .inl (cI, 366, .inl f_step)), (f13, .inl (cI, 366, .inl f_wayEntry)), (f14, .inl (cZ, 366, .inl f_wayAhead))] sz) (fun u : (Nat → Int32) × (Nat → Int32) => [(fh, .inr (0, [.int f_lanes, .ref f1, .ref f2, .ref f3, .ref f4, .ref f5, .int f_safeRooms, .int f_people, .int f_led, .ref f9, .ref f10, .ref f11, .ref f12, .ref f13, .ref f14, .int f_waySteps, .int f_wayWidth])), (f1, .inl (cI, 16, .inl f_from)), (f2, .inl (cI, 16, .inl f_to)), (f3, .inl (cI, 16, .inl f_width)), (f4, .inl (cI, 16, .inl f_length)), (f5, .inl (cI, 16, .inl f_shut)), (f9, .inl (cI, 6, .inl f_notLed)), (f10, .inl (cI, 976, .inl f_entering)), (f11, .inl (cI, 6, .inl u.1)), (f12, .inl (cI, 366, .inl u.2)), (f13, .inl (cI, 366, .inl f_wayEntry)), (f14, .inl (cZ, 366, .inl f_wayAhead))]) post) 0 0 (va_A [(fh, .inr (0, [.int f_lanes, .ref f1, .ref f2, .ref f3, .ref f4, .ref f5, .int f_safeRooms, .int f_people, .int f_led, .ref f9, .ref f10, .ref f11, .ref f12, .ref f13, .ref f14, .int f_waySteps, .int f_wayWidth])), (f1, .inl (cI, 16, .inl f_from)), (f2, .inl (cI, 16, .inl f_to)), (f3, .inl (cI, 16, .inl f_width)), (f4, .inl (cI, 16, .inl f_length)), (f5, .inl (cI, 16, .inl f_shut)), (f9, .inl (cI, 6, .inl f_notLed)), (f10, .inl (cI, 976, .inl f_entering)), (f11, .inl (cI, 6, .inl f_latest)), (f12, .inl (cI, 366, .inl f_step)), (f13, .inl (cI, 366, .inl f_wayEntry)), (f14, .inl (cZ, 366, .inl f_wayAhead))] sz) := by
  refine lw_met (Q := fun A => lw_Qv D cI cZ A (fun u : (Nat → Int32) × (Nat → Int32) => [(fh, .inr (0, [.int f_lanes, .ref f1, .ref f2, .ref f3, .ref f4, .ref f5, .int f_safeRooms, .int f_people, .int f_led, .ref f9, .ref f10, .ref f11, .ref f12, .ref f13, .ref f14, .int f_waySteps, .int f_wayWidth])), (f1, .inl (cI, 16, .inl f_from)), (f2, .inl (cI, 16, .inl f_to)), (f3, .inl (cI, 16, .inl f_width)), (f4, .inl (cI, 16, .inl f_length)), (f5, .inl (cI, 16, .inl f_shut)), (f9, .inl (cI, 6, .inl f_notLed)), (f10, .inl (cI, 976, .inl f_entering)), (f11, .inl (cI, 6, .inl u.1)), (f12, .inl (cI, 366, .inl u.2)), (f13, .inl (cI, 366, .inl f_wayEntry)), (f14, .inl (cZ, 366, .inl f_wayAhead))]) post) (by decide) (Nat.le_of_ble_eq_true rfl) ?_
  intro p e s m below meth c A C hnm hP hD hS ls hl
  have C : lw_Cx D cI cZ p s m _ meth c cX0_reach 6 none RX0 A := C
  obtain ⟨hx, hb, hr, hml, hown, hts, hlocks, hN, hK, hA⟩ := id C
  have hl : lv_has ls 6 [(0, .ref fh), (1, .int a1), (2, .int a2), (3, .int a3)] := hl
  obtain ⟨H, hH⟩ : ∃ H, H = s.heap := ⟨_, rfl⟩
  rw [← hH] at hP
  have hS : va_S A s.heap H [] := by rw [hH]; exact hS
  suffices hgoal : W p l e ({ frames := 0, cells := 0, slots := 0, locals := 0 } : Room) s m _ below meth c H [] 0 0 (MQ below (lw_Qv D cI cZ A (fun u : (Nat → Int32) × (Nat → Int32) => [(fh, .inr (0, [.int f_lanes, .ref f1, .ref f2, .ref f3, .ref f4, .ref f5, .int f_safeRooms, .int f_people, .int f_led, .ref f9, .ref f10, .ref f11, .ref f12, .ref f13, .ref f14, .int f_waySteps, .int f_wayWidth])), (f1, .inl (cI, 16, .inl f_from)), (f2, .inl (cI, 16, .inl f_to)), (f3, .inl (cI, 16, .inl f_width)), (f4, .inl (cI, 16, .inl f_length)), (f5, .inl (cI, 16, .inl f_shut)), (f9, .inl (cI, 6, .inl f_notLed)), (f10, .inl (cI, 976, .inl f_entering)), (f11, .inl (cI, 6, .inl u.1)), (f12, .inl (cI, 366, .inl u.2)), (f13, .inl (cI, 366, .inl f_wayEntry)), (f14, .inl (cZ, 366, .inl f_wayAhead))]) post) _ s 0 0 A) (F0 m 0 ls []) by rw [hH] at hgoal; exact hgoal
  obtain ⟨locs, hlo⟩ : ∃ locs : List Loc, locs = [] := ⟨_, rfl⟩
  rw [← hlo] at hS ⊢
  rw [vc_X0_reach] at hv
  refine lv_iload_n hx hb dX0_reach_0 rfl (lv_at hl 1 rfl) ?_
  refine lv_bipush (v := 61) hx hb dX0_reach_1 (by decide) ?_
  refine lv_imul hx hb dX0_reach_3 ?_
  refine lv_topi (fun x4_1 ex4_1 => ?_)
  have hv := hv x4_1 ex4_1
  refine lv_istore (lv' := [(4, .int x4_1), (0, .ref fh), (1, .int a1), (2, .int a2), (3, .int a3)]) hx hb dX0_reach_4 hl (by decide) rfl (fun ls hl => ?_)
  refine lv_aload_n hx hb dX0_reach_6 rfl (lv_at hl 1 rfl) ?_
  refine va_get (D := D) (ci := 0) (v := .ref f11) (C := RX0) (T := TX0) (N := 17) hx hb hts iX0 hown hK hP 0 rfl rfl 11 (by decide) (hts _ kw_182) (fun _ h9 => h9) rfl dX0_reach_7 ?_
  refine lv_iload_n hx hb dX0_reach_10 rfl (lv_at hl 2 rfl) ?_
  obtain ⟨hi_2, hv⟩ := hv
  refine va_iald hx hb hK hP 8 0 rfl rfl hi_2 dX0_reach_11 ?_
  refine lv_iconst (v := 1) hx hb dX0_reach_12 (by decide) ?_
  refine lv_iadd hx hb dX0_reach_13 ?_
  refine lv_topi (fun x5_3 ex5_3 => ?_)
  have hv := hv x5_3 ex5_3
  refine lv_istore (lv' := [(5, .int x5_3), (4, .int x4_1), (0, .ref fh), (1, .int a1), (2, .int a2), (3, .int a3)]) hx hb dX0_reach_14 hl (by decide) rfl (fun ls hl => ?_)
  obtain ⟨n_9, hv⟩ := hv
  refine w_X0_reach_L16 fh f1 f2 f3 f4 f5 f9 f10 f11 f12 f13 f14 a1 a2 a3 x4_1 f_lanes f_from f_to f_width f_length f_shut f_safeRooms f_people f_led f_notLed f_entering f_latest f_wayEntry f_wayAhead f_waySteps f_wayWidth C _ (fun f_step_6 H locs ls hv hP hD hS hl => ?_) n_9 x5_3 f_step H locs ls hv hP hD hS (lv_sub hl [2, 3, 4, 5, 1, 0] rfl)
  refine lv_aload_n hx hb dX0_reach_41 rfl (lv_at hl 0 rfl) ?_
  refine va_get (D := D) (ci := 0) (v := .ref f12) (C := RX0) (T := TX0) (N := 17) hx hb hts iX0 hown hK hP 0 rfl rfl 12 (by decide) (hts _ kw_183) (fun _ h9 => h9) rfl dX0_reach_42 ?_
  refine lv_iload hx hb dX0_reach_45 (lv_at hl 4 rfl) ?_
  refine lv_iload_n hx hb dX0_reach_47 rfl (lv_at hl 2 rfl) ?_
  refine lv_iadd hx hb dX0_reach_48 ?_
  refine lv_iload_n hx hb dX0_reach_49 rfl (lv_at hl 3 rfl) ?_
  obtain ⟨hi_7, hv⟩ := hv
  refine va_iast hx hb hK hP hD hS 9 0 rfl rfl hi_7 dX0_reach_50 (fun H locs hP hD hS => ?_)
  have hP : va_P D vwCl [(fh, .inr (0, [.int f_lanes, .ref f1, .ref f2, .ref f3, .ref f4, .ref f5, .int f_safeRooms, .int f_people, .int f_led, .ref f9, .ref f10, .ref f11, .ref f12, .ref f13, .ref f14, .int f_waySteps, .int f_wayWidth])), (f1, .inl (cI, 16, .inl f_from)), (f2, .inl (cI, 16, .inl f_to)), (f3, .inl (cI, 16, .inl f_width)), (f4, .inl (cI, 16, .inl f_length)), (f5, .inl (cI, 16, .inl f_shut)), (f9, .inl (cI, 6, .inl f_notLed)), (f10, .inl (cI, 976, .inl f_entering)), (f11, .inl (cI, 6, .inl f_latest)), (f12, .inl (cI, 366, .inl (upd f_step_6 ((x4_1 + a2)).toNatClampNeg a3))), (f13, .inl (cI, 366, .inl f_wayEntry)), (f14, .inl (cZ, 366, .inl f_wayAhead))] H := hP
  have hD : va_D A [(fh, .inr (0, [.int f_lanes, .ref f1, .ref f2, .ref f3, .ref f4, .ref f5, .int f_safeRooms, .int f_people, .int f_led, .ref f9, .ref f10, .ref f11, .ref f12, .ref f13, .ref f14, .int f_waySteps, .int f_wayWidth])), (f1, .inl (cI, 16, .inl f_from)), (f2, .inl (cI, 16, .inl f_to)), (f3, .inl (cI, 16, .inl f_width)), (f4, .inl (cI, 16, .inl f_length)), (f5, .inl (cI, 16, .inl f_shut)), (f9, .inl (cI, 6, .inl f_notLed)), (f10, .inl (cI, 976, .inl f_entering)), (f11, .inl (cI, 6, .inl f_latest)), (f12, .inl (cI, 366, .inl (upd f_step_6 ((x4_1 + a2)).toNatClampNeg a3))), (f13, .inl (cI, 366, .inl f_wayEntry)), (f14, .inl (cZ, 366, .inl f_wayAhead))] := hD
  refine lv_aload_n hx hb dX0_reach_51 rfl (lv_at hl 0 rfl) ?_
  refine va_get (D := D) (ci := 0) (v := .ref f11) (C := RX0) (T := TX0) (N := 17) hx hb hts iX0 hown hK hP 0 rfl rfl 11 (by decide) (hts _ kw_182) (fun _ h9 => h9) rfl dX0_reach_52 ?_
  refine lv_iload_n hx hb dX0_reach_55 rfl (lv_at hl 1 rfl) ?_
  refine lv_iload_n hx hb dX0_reach_56 rfl (lv_at hl 2 rfl) ?_
  obtain ⟨hi_8, hv⟩ := hv
  refine va_iast hx hb hK hP hD hS 8 0 rfl rfl hi_8 dX0_reach_57 (fun H locs hP hD hS => ?_)
  have hP : va_P D vwCl [(fh, .inr (0, [.int f_lanes, .ref f1, .ref f2, .ref f3, .ref f4, .ref f5, .int f_safeRooms, .int f_people, .int f_led, .ref f9, .ref f10, .ref f11, .ref f12, .ref f13, .ref f14, .int f_waySteps, .int f_wayWidth])), (f1, .inl (cI, 16, .inl f_from)), (f2, .inl (cI, 16, .inl f_to)), (f3, .inl (cI, 16, .inl f_width)), (f4, .inl (cI, 16, .inl f_length)), (f5, .inl (cI, 16, .inl f_shut)), (f9, .inl (cI, 6, .inl f_notLed)), (f10, .inl (cI, 976, .inl f_entering)), (f11, .inl (cI, 6, .inl (upd f_latest a1.toNatClampNeg a2))), (f12, .inl (cI, 366, .inl (upd f_step_6 ((x4_1 + a2)).toNatClampNeg a3))), (f13, .inl (cI, 366, .inl f_wayEntry)), (f14, .inl (cZ, 366, .inl f_wayAhead))] H := hP
  have hD : va_D A [(fh, .inr (0, [.int f_lanes, .ref f1, .ref f2, .ref f3, .ref f4, .ref f5, .int f_safeRooms, .int f_people, .int f_led, .ref f9, .ref f10, .ref f11, .ref f12, .ref f13, .ref f14, .int f_waySteps, .int f_wayWidth])), (f1, .inl (cI, 16, .inl f_from)), (f2, .inl (cI, 16, .inl f_to)), (f3, .inl (cI, 16, .inl f_width)), (f4, .inl (cI, 16, .inl f_length)), (f5, .inl (cI, 16, .inl f_shut)), (f9, .inl (cI, 6, .inl f_notLed)), (f10, .inl (cI, 976, .inl f_entering)), (f11, .inl (cI, 6, .inl (upd f_latest a1.toNatClampNeg a2))), (f12, .inl (cI, 366, .inl (upd f_step_6 ((x4_1 + a2)).toNatClampNeg a3))), (f13, .inl (cI, 366, .inl f_wayEntry)), (f14, .inl (cZ, 366, .inl f_wayAhead))] := hD
  exact lw_vret C ((upd f_latest a1.toNatClampNeg a2), (upd f_step_6 ((x4_1 + a2)).toNatClampNeg a3)) hv hP hD hS dX0_reach_58

def vc_X0_setWidth (a1 : Int32) (a2 : Int32) (f_width : (Nat → Int32)) (post : (Nat → Int32) → Prop) : Prop :=
  (vp_in (6 + a1) 16 ∧ post (upd f_width ((6 + a1)).toNatClampNeg a2))

set_option maxHeartbeats 4000000 in
set_option maxRecDepth 100000 in
theorem m_X0_setWidth (l : Launch) (D : va_G) (cI cZ : ClassId) (fh f1 f2 f3 f4 f5 f9 f10 f11 f12 f13 f14 : Nat) (a1 : Int32) (a2 : Int32) (f_lanes : Int32) (f_from : (Nat → Int32)) (f_to : (Nat → Int32)) (f_width : (Nat → Int32)) (f_length : (Nat → Int32)) (f_shut : (Nat → Int32)) (f_safeRooms : Int32) (f_people : Int32) (f_led : Int32) (f_notLed : (Nat → Int32)) (f_entering : (Nat → Int32)) (f_latest : (Nat → Int32)) (f_step : (Nat → Int32)) (f_wayEntry : (Nat → Int32)) (f_wayAhead : (Nat → Int32)) (f_waySteps : Int32) (f_wayWidth : Int32) (sz : Nat) {post : (Nat → Int32) → Prop} (hv : vc_X0_setWidth a1 a2 f_width post) :
    Met l yX0_setWidth (Cond.code yX0_setWidth cX0_setWidth 3 none :: lw_good) ({ frames := 0, cells := 0, slots := 0, locals := 0 } : Room) (va_Pc [.ref fh, .int a1, .int a2] (lw_B D cI cZ [(fh, .inr (0, [.int f_lanes, .ref f1, .ref f2, .ref f3, .ref f4, .ref f5, .int f_safeRooms, .int f_people, .int f_led, .ref f9, .ref f10, .ref f11, .ref f12, .ref f13, .ref f14, .int f_waySteps, .int f_wayWidth])), (f1, .inl (cI, 16, .inl f_from)), (f2, .inl (cI, 16, .inl f_to)), (f3, .inl (cI, 16, .inl f_width)), (f4, .inl (cI, 16, .inl f_length)), (f5, .inl (cI, 16, .inl f_shut)), (f9, .inl (cI, 6, .inl f_notLed)), (f10, .inl (cI, 976, .inl f_entering)), (f11, .inl (cI, 6, .inl f_latest)), (f12, .inl (cI, 366, .inl f_step)), (f13, .inl (cI, 366, .inl f_wayEntry)), (f14, .inl (cZ, 366, .inl f_wayAhead))] sz)) (lw_Qv D cI cZ (va_A [(fh, .inr (0, [.int f_lanes, .ref f1, .ref f2, .ref f3, .ref f4, .ref f5, .int f_safeRooms, .int f_people, .int f_led, .ref f9, .ref f10, .ref f11, .ref f12, .ref f13, .ref f14, .int f_waySteps, .int f_wayWidth])), (f1, .inl (cI, 16, .inl f_from)), (f2, .inl (cI, 16, .inl f_to)), (f3, .inl (cI, 16, .inl f_width)), (f4, .inl (cI, 16, .inl f_length)), (f5, .inl (cI, 16, .inl f_shut)), (f9, .inl (cI, 6, .inl f_notLed)), (f10, .inl (cI, 976, .inl f_entering)), (f11, .inl (cI, 6, .inl f_latest)), (f12, .inl (cI, 366, .inl f_step)), (f13, .inl (cI, 366, .inl f_wayEntry)), (f14, .inl (cZ, 366, .inl f_wayAhead))] sz) (fun u : (Nat → Int32) => [(fh, .inr (0, [.int f_lanes, .ref f1, .ref f2, .ref f3, .ref f4, .ref f5, .int f_safeRooms, .int f_people, .int f_led, .ref f9, .ref f10, .ref f11, .ref f12, .ref f13, .ref f14, .int f_waySteps, .int f_wayWidth])), (f1, .inl (cI, 16, .inl f_from)), (f2, .inl (cI, 16, .inl f_to)), (f3, .inl (cI, 16, .inl u)), (f4, .inl (cI, 16, .inl f_length)), (f5, .inl (cI, 16, .inl f_shut)), (f9, .inl (cI, 6, .inl f_notLed)), (f10, .inl (cI, 976, .inl f_entering)), (f11, .inl (cI, 6, .inl f_latest)), (f12, .inl (cI, 366, .inl f_step)), (f13, .inl (cI, 366, .inl f_wayEntry)), (f14, .inl (cZ, 366, .inl f_wayAhead))]) post) 0 0 (va_A [(fh, .inr (0, [.int f_lanes, .ref f1, .ref f2, .ref f3, .ref f4, .ref f5, .int f_safeRooms, .int f_people, .int f_led, .ref f9, .ref f10, .ref f11, .ref f12, .ref f13, .ref f14, .int f_waySteps, .int f_wayWidth])), (f1, .inl (cI, 16, .inl f_from)), (f2, .inl (cI, 16, .inl f_to)), (f3, .inl (cI, 16, .inl f_width)), (f4, .inl (cI, 16, .inl f_length)), (f5, .inl (cI, 16, .inl f_shut)), (f9, .inl (cI, 6, .inl f_notLed)), (f10, .inl (cI, 976, .inl f_entering)), (f11, .inl (cI, 6, .inl f_latest)), (f12, .inl (cI, 366, .inl f_step)), (f13, .inl (cI, 366, .inl f_wayEntry)), (f14, .inl (cZ, 366, .inl f_wayAhead))] sz) := by
  refine lw_met (Q := fun A => lw_Qv D cI cZ A (fun u : (Nat → Int32) => [(fh, .inr (0, [.int f_lanes, .ref f1, .ref f2, .ref f3, .ref f4, .ref f5, .int f_safeRooms, .int f_people, .int f_led, .ref f9, .ref f10, .ref f11, .ref f12, .ref f13, .ref f14, .int f_waySteps, .int f_wayWidth])), (f1, .inl (cI, 16, .inl f_from)), (f2, .inl (cI, 16, .inl f_to)), (f3, .inl (cI, 16, .inl u)), (f4, .inl (cI, 16, .inl f_length)), (f5, .inl (cI, 16, .inl f_shut)), (f9, .inl (cI, 6, .inl f_notLed)), (f10, .inl (cI, 976, .inl f_entering)), (f11, .inl (cI, 6, .inl f_latest)), (f12, .inl (cI, 366, .inl f_step)), (f13, .inl (cI, 366, .inl f_wayEntry)), (f14, .inl (cZ, 366, .inl f_wayAhead))]) post) (by decide) (Nat.le_of_ble_eq_true rfl) ?_
  intro p e s m below meth c A C hnm hP hD hS ls hl
  have C : lw_Cx D cI cZ p s m _ meth c cX0_setWidth 3 none RX0 A := C
  obtain ⟨hx, hb, hr, hml, hown, hts, hlocks, hN, hK, hA⟩ := id C
  have hl : lv_has ls 3 [(0, .ref fh), (1, .int a1), (2, .int a2)] := hl
  obtain ⟨H, hH⟩ : ∃ H, H = s.heap := ⟨_, rfl⟩
  rw [← hH] at hP
  have hS : va_S A s.heap H [] := by rw [hH]; exact hS
  suffices hgoal : W p l e ({ frames := 0, cells := 0, slots := 0, locals := 0 } : Room) s m _ below meth c H [] 0 0 (MQ below (lw_Qv D cI cZ A (fun u : (Nat → Int32) => [(fh, .inr (0, [.int f_lanes, .ref f1, .ref f2, .ref f3, .ref f4, .ref f5, .int f_safeRooms, .int f_people, .int f_led, .ref f9, .ref f10, .ref f11, .ref f12, .ref f13, .ref f14, .int f_waySteps, .int f_wayWidth])), (f1, .inl (cI, 16, .inl f_from)), (f2, .inl (cI, 16, .inl f_to)), (f3, .inl (cI, 16, .inl u)), (f4, .inl (cI, 16, .inl f_length)), (f5, .inl (cI, 16, .inl f_shut)), (f9, .inl (cI, 6, .inl f_notLed)), (f10, .inl (cI, 976, .inl f_entering)), (f11, .inl (cI, 6, .inl f_latest)), (f12, .inl (cI, 366, .inl f_step)), (f13, .inl (cI, 366, .inl f_wayEntry)), (f14, .inl (cZ, 366, .inl f_wayAhead))]) post) _ s 0 0 A) (F0 m 0 ls []) by rw [hH] at hgoal; exact hgoal
  obtain ⟨locs, hlo⟩ : ∃ locs : List Loc, locs = [] := ⟨_, rfl⟩
  rw [← hlo] at hS ⊢
  rw [vc_X0_setWidth] at hv
  refine lv_aload_n hx hb dX0_setWidth_0 rfl (lv_at hl 0 rfl) ?_
  refine va_get (D := D) (ci := 0) (v := .ref f3) (C := RX0) (T := TX0) (N := 17) hx hb hts iX0 hown hK hP 0 rfl rfl 3 (by decide) (hts _ kw_174) (fun _ h9 => h9) rfl dX0_setWidth_1 ?_
  refine lv_bipush (v := 6) hx hb dX0_setWidth_4 (by decide) ?_
  refine lv_iload_n hx hb dX0_setWidth_6 rfl (lv_at hl 1 rfl) ?_
  refine lv_iadd hx hb dX0_setWidth_7 ?_
  refine lv_iload_n hx hb dX0_setWidth_8 rfl (lv_at hl 2 rfl) ?_
  obtain ⟨hi_1, hv⟩ := hv
  refine va_iast hx hb hK hP hD hS 3 0 rfl rfl hi_1 dX0_setWidth_9 (fun H locs hP hD hS => ?_)
  have hP : va_P D vwCl [(fh, .inr (0, [.int f_lanes, .ref f1, .ref f2, .ref f3, .ref f4, .ref f5, .int f_safeRooms, .int f_people, .int f_led, .ref f9, .ref f10, .ref f11, .ref f12, .ref f13, .ref f14, .int f_waySteps, .int f_wayWidth])), (f1, .inl (cI, 16, .inl f_from)), (f2, .inl (cI, 16, .inl f_to)), (f3, .inl (cI, 16, .inl (upd f_width ((6 + a1)).toNatClampNeg a2))), (f4, .inl (cI, 16, .inl f_length)), (f5, .inl (cI, 16, .inl f_shut)), (f9, .inl (cI, 6, .inl f_notLed)), (f10, .inl (cI, 976, .inl f_entering)), (f11, .inl (cI, 6, .inl f_latest)), (f12, .inl (cI, 366, .inl f_step)), (f13, .inl (cI, 366, .inl f_wayEntry)), (f14, .inl (cZ, 366, .inl f_wayAhead))] H := hP
  have hD : va_D A [(fh, .inr (0, [.int f_lanes, .ref f1, .ref f2, .ref f3, .ref f4, .ref f5, .int f_safeRooms, .int f_people, .int f_led, .ref f9, .ref f10, .ref f11, .ref f12, .ref f13, .ref f14, .int f_waySteps, .int f_wayWidth])), (f1, .inl (cI, 16, .inl f_from)), (f2, .inl (cI, 16, .inl f_to)), (f3, .inl (cI, 16, .inl (upd f_width ((6 + a1)).toNatClampNeg a2))), (f4, .inl (cI, 16, .inl f_length)), (f5, .inl (cI, 16, .inl f_shut)), (f9, .inl (cI, 6, .inl f_notLed)), (f10, .inl (cI, 976, .inl f_entering)), (f11, .inl (cI, 6, .inl f_latest)), (f12, .inl (cI, 366, .inl f_step)), (f13, .inl (cI, 366, .inl f_wayEntry)), (f14, .inl (cZ, 366, .inl f_wayAhead))] := hD
  exact lw_vret C (upd f_width ((6 + a1)).toNatClampNeg a2) hv hP hD hS dX0_setWidth_10

def vc_X0_lastUse_L11 (K : Prop) (post : Int32 → Unit → Prop) (b2 : Int32) (f_entering : (Nat → Int32)) : Nat → Int32 → Prop
  | 0, _ => False
  | n + 1, v3 =>
    ((v3 < 0 → K) ∧ (¬ v3 < 0 → (vp_in (b2 + v3) 976 ∧ (((f_entering ((b2 + v3)).toNatClampNeg) ≤ 0 → (∀ x3_3 : Int32, x3_3 = v3 + (-1) → vc_X0_lastUse_L11 K post b2 f_entering n x3_3)) ∧ (¬ (f_entering ((b2 + v3)).toNatClampNeg) ≤ 0 → post v3 ())))))

set_option maxHeartbeats 4000000 in
set_option maxRecDepth 100000 in
theorem w_X0_lastUse_L11 {p : Program} {l : Launch} {e : Env} {s : State} {m : MethodId} {args : Array Value} {below : List Frame} {meth : Method} {c : Code} {D : va_G} {cI cZ : ClassId} {A : Nat → Prop} (fh f1 f2 f3 f4 f5 f9 f10 f11 f12 f13 f14 : Nat) (b2 : Int32) (f_lanes : Int32) (f_from : (Nat → Int32)) (f_to : (Nat → Int32)) (f_width : (Nat → Int32)) (f_length : (Nat → Int32)) (f_shut : (Nat → Int32)) (f_safeRooms : Int32) (f_people : Int32) (f_led : Int32) (f_notLed : (Nat → Int32)) (f_entering : (Nat → Int32)) (f_latest : (Nat → Int32)) (f_step : (Nat → Int32)) (f_wayEntry : (Nat → Int32)) (f_wayAhead : (Nat → Int32)) (f_waySteps : Int32) (f_wayWidth : Int32) (post : Int32 → Unit → Prop) (C : lw_Cx D cI cZ p s m args meth c cX0_lastUse 4 (some .int) RX0 A) (K : Prop) (hKx : ∀  (H : Heap) (locs : List Loc) (ls : Array Slot), K  → va_P D vwCl [(fh, .inr (0, [.int f_lanes, .ref f1, .ref f2, .ref f3, .ref f4, .ref f5, .int f_safeRooms, .int f_people, .int f_led, .ref f9, .ref f10, .ref f11, .ref f12, .ref f13, .ref f14, .int f_waySteps, .int f_wayWidth])), (f1, .inl (cI, 16, .inl f_from)), (f2, .inl (cI, 16, .inl f_to)), (f3, .inl (cI, 16, .inl f_width)), (f4, .inl (cI, 16, .inl f_length)), (f5, .inl (cI, 16, .inl f_shut)), (f9, .inl (cI, 6, .inl f_notLed)), (f10, .inl (cI, 976, .inl f_entering)), (f11, .inl (cI, 6, .inl f_latest)), (f12, .inl (cI, 366, .inl f_step)), (f13, .inl (cI, 366, .inl f_wayEntry)), (f14, .inl (cZ, 366, .inl f_wayAhead))] H → va_D A [(fh, .inr (0, [.int f_lanes, .ref f1, .ref f2, .ref f3, .ref f4, .ref f5, .int f_safeRooms, .int f_people, .int f_led, .ref f9, .ref f10, .ref f11, .ref f12, .ref f13, .ref f14, .int f_waySteps, .int f_wayWidth])), (f1, .inl (cI, 16, .inl f_from)), (f2, .inl (cI, 16, .inl f_to)), (f3, .inl (cI, 16, .inl f_width)), (f4, .inl (cI, 16, .inl f_length)), (f5, .inl (cI, 16, .inl f_shut)), (f9, .inl (cI, 6, .inl f_notLed)), (f10, .inl (cI, 976, .inl f_entering)), (f11, .inl (cI, 6, .inl f_latest)), (f12, .inl (cI, 366, .inl f_step)), (f13, .inl (cI, 366, .inl f_wayEntry)), (f14, .inl (cZ, 366, .inl f_wayAhead))] → va_S A s.heap H locs → lv_has ls 4 [] → W p l e ({ frames := 0, cells := 0, slots := 0, locals := 0 } : Room) s m args below meth c H locs 0 0 (MQ below (lw_Qi D cI cZ A (fun u : Unit => [(fh, .inr (0, [.int f_lanes, .ref f1, .ref f2, .ref f3, .ref f4, .ref f5, .int f_safeRooms, .int f_people, .int f_led, .ref f9, .ref f10, .ref f11, .ref f12, .ref f13, .ref f14, .int f_waySteps, .int f_wayWidth])), (f1, .inl (cI, 16, .inl f_from)), (f2, .inl (cI, 16, .inl f_to)), (f3, .inl (cI, 16, .inl f_width)), (f4, .inl (cI, 16, .inl f_length)), (f5, .inl (cI, 16, .inl f_shut)), (f9, .inl (cI, 6, .inl f_notLed)), (f10, .inl (cI, 976, .inl f_entering)), (f11, .inl (cI, 6, .inl f_latest)), (f12, .inl (cI, 366, .inl f_step)), (f13, .inl (cI, 366, .inl f_wayEntry)), (f14, .inl (cZ, 366, .inl f_wayAhead))]) post) args s 0 0 A) (F0 m 34 ls [])) :
    ∀ (n : Nat) (v3 : Int32) (H : Heap) (locs : List Loc) (ls : Array Slot), vc_X0_lastUse_L11 K post b2 f_entering n v3 → va_P D vwCl [(fh, .inr (0, [.int f_lanes, .ref f1, .ref f2, .ref f3, .ref f4, .ref f5, .int f_safeRooms, .int f_people, .int f_led, .ref f9, .ref f10, .ref f11, .ref f12, .ref f13, .ref f14, .int f_waySteps, .int f_wayWidth])), (f1, .inl (cI, 16, .inl f_from)), (f2, .inl (cI, 16, .inl f_to)), (f3, .inl (cI, 16, .inl f_width)), (f4, .inl (cI, 16, .inl f_length)), (f5, .inl (cI, 16, .inl f_shut)), (f9, .inl (cI, 6, .inl f_notLed)), (f10, .inl (cI, 976, .inl f_entering)), (f11, .inl (cI, 6, .inl f_latest)), (f12, .inl (cI, 366, .inl f_step)), (f13, .inl (cI, 366, .inl f_wayEntry)), (f14, .inl (cZ, 366, .inl f_wayAhead))] H → va_D A [(fh, .inr (0, [.int f_lanes, .ref f1, .ref f2, .ref f3, .ref f4, .ref f5, .int f_safeRooms, .int f_people, .int f_led, .ref f9, .ref f10, .ref f11, .ref f12, .ref f13, .ref f14, .int f_waySteps, .int f_wayWidth])), (f1, .inl (cI, 16, .inl f_from)), (f2, .inl (cI, 16, .inl f_to)), (f3, .inl (cI, 16, .inl f_width)), (f4, .inl (cI, 16, .inl f_length)), (f5, .inl (cI, 16, .inl f_shut)), (f9, .inl (cI, 6, .inl f_notLed)), (f10, .inl (cI, 976, .inl f_entering)), (f11, .inl (cI, 6, .inl f_latest)), (f12, .inl (cI, 366, .inl f_step)), (f13, .inl (cI, 366, .inl f_wayEntry)), (f14, .inl (cZ, 366, .inl f_wayAhead))] → va_S A s.heap H locs → lv_has ls 4 [(0, .ref fh), (2, .int b2), (3, .int v3)] → W p l e ({ frames := 0, cells := 0, slots := 0, locals := 0 } : Room) s m args below meth c H locs 0 0 (MQ below (lw_Qi D cI cZ A (fun u : Unit => [(fh, .inr (0, [.int f_lanes, .ref f1, .ref f2, .ref f3, .ref f4, .ref f5, .int f_safeRooms, .int f_people, .int f_led, .ref f9, .ref f10, .ref f11, .ref f12, .ref f13, .ref f14, .int f_waySteps, .int f_wayWidth])), (f1, .inl (cI, 16, .inl f_from)), (f2, .inl (cI, 16, .inl f_to)), (f3, .inl (cI, 16, .inl f_width)), (f4, .inl (cI, 16, .inl f_length)), (f5, .inl (cI, 16, .inl f_shut)), (f9, .inl (cI, 6, .inl f_notLed)), (f10, .inl (cI, 976, .inl f_entering)), (f11, .inl (cI, 6, .inl f_latest)), (f12, .inl (cI, 366, .inl f_step)), (f13, .inl (cI, 366, .inl f_wayEntry)), (f14, .inl (cZ, 366, .inl f_wayAhead))]) post) args s 0 0 A) (F0 m 11 ls []) := by
  obtain ⟨hx, hb, hr, hml, hown, hts, hlocks, hN, hK, hA⟩ := id C
  intro n
  induction n with
  | zero =>
    intro v3 H locs ls hv
    exact False.elim hv
  | succ n ih =>
    intro v3 H locs ls hv hP hD hS hl
    rw [vc_X0_lastUse_L11] at hv
    refine lv_iload_n hx hb dX0_lastUse_11 rfl (lv_at hl 2 rfl) ?_
    refine lv_if_lt (tgt := 34) hx hb dX0_lastUse_12 (by decide) (fun c9 => ?_) (fun c9 => ?_)
    · have hv := hv.1 c9
      exact hKx  H locs ls hv hP hD hS (lv_sub hl [] rfl)
    · have hv := hv.2 c9
      refine lv_aload_n hx hb dX0_lastUse_15 rfl (lv_at hl 0 rfl) ?_
      refine va_get (D := D) (ci := 0) (v := .ref f10) (C := RX0) (T := TX0) (N := 17) hx hb hts iX0 hown hK hP 0 rfl rfl 10 (by decide) (hts _ kw_181) (fun _ h9 => h9) rfl dX0_lastUse_16 ?_
      refine lv_iload_n hx hb dX0_lastUse_19 rfl (lv_at hl 1 rfl) ?_
      refine lv_iload_n hx hb dX0_lastUse_20 rfl (lv_at hl 2 rfl) ?_
      refine lv_iadd hx hb dX0_lastUse_21 ?_
      obtain ⟨hi_2, hv⟩ := hv
      refine va_iald hx hb hK hP 7 0 rfl rfl hi_2 dX0_lastUse_22 ?_
      refine lv_if_le (tgt := 28) hx hb dX0_lastUse_23 (by decide) (fun c9 => ?_) (fun c9 => ?_)
      · have hv := hv.1 c9
        obtain ⟨x3_3, ex3_3⟩ : ∃ y : Int32, y = v3 + (-1) := ⟨_, rfl⟩
        have hv := hv x3_3 ex3_3
        refine lv_iinc (v := x3_3) (lv' := [(3, .int x3_3), (0, .ref fh), (2, .int b2)]) hx hb dX0_lastUse_28 hl (k := 2) rfl (by rw [ex3_3]; rfl) (by decide) rfl (fun ls hl => ?_)
        refine lv_goto (tgt := 11) hx hb dX0_lastUse_31 (by decide) ?_
        exact ih x3_3 H locs ls hv hP hD hS (lv_sub hl [1, 2, 0] rfl)
      · have hv := hv.2 c9
        refine lv_iload_n hx hb dX0_lastUse_26 rfl (lv_at hl 2 rfl) ?_
        exact lw_iret C () hv hP hD hS dX0_lastUse_27

def vc_X0_lastUse (a1 : Int32) (f_entering : (Nat → Int32)) (post : Int32 → Unit → Prop) : Prop :=
  (∀ x2_1 : Int32, x2_1 = ((6 + a1) * 61) → (∃ n_4, vc_X0_lastUse_L11 (post (-1) ()) post x2_1 f_entering n_4 60))

set_option maxHeartbeats 4000000 in
set_option maxRecDepth 100000 in
theorem m_X0_lastUse (l : Launch) (D : va_G) (cI cZ : ClassId) (fh f1 f2 f3 f4 f5 f9 f10 f11 f12 f13 f14 : Nat) (a1 : Int32) (f_lanes : Int32) (f_from : (Nat → Int32)) (f_to : (Nat → Int32)) (f_width : (Nat → Int32)) (f_length : (Nat → Int32)) (f_shut : (Nat → Int32)) (f_safeRooms : Int32) (f_people : Int32) (f_led : Int32) (f_notLed : (Nat → Int32)) (f_entering : (Nat → Int32)) (f_latest : (Nat → Int32)) (f_step : (Nat → Int32)) (f_wayEntry : (Nat → Int32)) (f_wayAhead : (Nat → Int32)) (f_waySteps : Int32) (f_wayWidth : Int32) (sz : Nat) {post : Int32 → Unit → Prop} (hv : vc_X0_lastUse a1 f_entering post) :
    Met l yX0_lastUse (Cond.code yX0_lastUse cX0_lastUse 4 (some .int) :: lw_good) ({ frames := 0, cells := 0, slots := 0, locals := 0 } : Room) (va_Pc [.ref fh, .int a1] (lw_B D cI cZ [(fh, .inr (0, [.int f_lanes, .ref f1, .ref f2, .ref f3, .ref f4, .ref f5, .int f_safeRooms, .int f_people, .int f_led, .ref f9, .ref f10, .ref f11, .ref f12, .ref f13, .ref f14, .int f_waySteps, .int f_wayWidth])), (f1, .inl (cI, 16, .inl f_from)), (f2, .inl (cI, 16, .inl f_to)), (f3, .inl (cI, 16, .inl f_width)), (f4, .inl (cI, 16, .inl f_length)), (f5, .inl (cI, 16, .inl f_shut)), (f9, .inl (cI, 6, .inl f_notLed)), (f10, .inl (cI, 976, .inl f_entering)), (f11, .inl (cI, 6, .inl f_latest)), (f12, .inl (cI, 366, .inl f_step)), (f13, .inl (cI, 366, .inl f_wayEntry)), (f14, .inl (cZ, 366, .inl f_wayAhead))] sz)) (lw_Qi D cI cZ (va_A [(fh, .inr (0, [.int f_lanes, .ref f1, .ref f2, .ref f3, .ref f4, .ref f5, .int f_safeRooms, .int f_people, .int f_led, .ref f9, .ref f10, .ref f11, .ref f12, .ref f13, .ref f14, .int f_waySteps, .int f_wayWidth])), (f1, .inl (cI, 16, .inl f_from)), (f2, .inl (cI, 16, .inl f_to)), (f3, .inl (cI, 16, .inl f_width)), (f4, .inl (cI, 16, .inl f_length)), (f5, .inl (cI, 16, .inl f_shut)), (f9, .inl (cI, 6, .inl f_notLed)), (f10, .inl (cI, 976, .inl f_entering)), (f11, .inl (cI, 6, .inl f_latest)), (f12, .inl (cI, 366, .inl f_step)), (f13, .inl (cI, 366, .inl f_wayEntry)), (f14, .inl (cZ, 366, .inl f_wayAhead))] sz) (fun u : Unit => [(fh, .inr (0, [.int f_lanes, .ref f1, .ref f2, .ref f3, .ref f4, .ref f5, .int f_safeRooms, .int f_people, .int f_led, .ref f9, .ref f10, .ref f11, .ref f12, .ref f13, .ref f14, .int f_waySteps, .int f_wayWidth])), (f1, .inl (cI, 16, .inl f_from)), (f2, .inl (cI, 16, .inl f_to)), (f3, .inl (cI, 16, .inl f_width)), (f4, .inl (cI, 16, .inl f_length)), (f5, .inl (cI, 16, .inl f_shut)), (f9, .inl (cI, 6, .inl f_notLed)), (f10, .inl (cI, 976, .inl f_entering)), (f11, .inl (cI, 6, .inl f_latest)), (f12, .inl (cI, 366, .inl f_step)), (f13, .inl (cI, 366, .inl f_wayEntry)), (f14, .inl (cZ, 366, .inl f_wayAhead))]) post) 0 0 (va_A [(fh, .inr (0, [.int f_lanes, .ref f1, .ref f2, .ref f3, .ref f4, .ref f5, .int f_safeRooms, .int f_people, .int f_led, .ref f9, .ref f10, .ref f11, .ref f12, .ref f13, .ref f14, .int f_waySteps, .int f_wayWidth])), (f1, .inl (cI, 16, .inl f_from)), (f2, .inl (cI, 16, .inl f_to)), (f3, .inl (cI, 16, .inl f_width)), (f4, .inl (cI, 16, .inl f_length)), (f5, .inl (cI, 16, .inl f_shut)), (f9, .inl (cI, 6, .inl f_notLed)), (f10, .inl (cI, 976, .inl f_entering)), (f11, .inl (cI, 6, .inl f_latest)), (f12, .inl (cI, 366, .inl f_step)), (f13, .inl (cI, 366, .inl f_wayEntry)), (f14, .inl (cZ, 366, .inl f_wayAhead))] sz) := by
  refine lw_met (Q := fun A => lw_Qi D cI cZ A (fun u : Unit => [(fh, .inr (0, [.int f_lanes, .ref f1, .ref f2, .ref f3, .ref f4, .ref f5, .int f_safeRooms, .int f_people, .int f_led, .ref f9, .ref f10, .ref f11, .ref f12, .ref f13, .ref f14, .int f_waySteps, .int f_wayWidth])), (f1, .inl (cI, 16, .inl f_from)), (f2, .inl (cI, 16, .inl f_to)), (f3, .inl (cI, 16, .inl f_width)), (f4, .inl (cI, 16, .inl f_length)), (f5, .inl (cI, 16, .inl f_shut)), (f9, .inl (cI, 6, .inl f_notLed)), (f10, .inl (cI, 976, .inl f_entering)), (f11, .inl (cI, 6, .inl f_latest)), (f12, .inl (cI, 366, .inl f_step)), (f13, .inl (cI, 366, .inl f_wayEntry)), (f14, .inl (cZ, 366, .inl f_wayAhead))]) post) (by decide) (Nat.le_of_ble_eq_true rfl) ?_
  intro p e s m below meth c A C hnm hP hD hS ls hl
  have C : lw_Cx D cI cZ p s m _ meth c cX0_lastUse 4 (some .int) RX0 A := C
  obtain ⟨hx, hb, hr, hml, hown, hts, hlocks, hN, hK, hA⟩ := id C
  have hl : lv_has ls 4 [(0, .ref fh), (1, .int a1)] := hl
  obtain ⟨H, hH⟩ : ∃ H, H = s.heap := ⟨_, rfl⟩
  rw [← hH] at hP
  have hS : va_S A s.heap H [] := by rw [hH]; exact hS
  suffices hgoal : W p l e ({ frames := 0, cells := 0, slots := 0, locals := 0 } : Room) s m _ below meth c H [] 0 0 (MQ below (lw_Qi D cI cZ A (fun u : Unit => [(fh, .inr (0, [.int f_lanes, .ref f1, .ref f2, .ref f3, .ref f4, .ref f5, .int f_safeRooms, .int f_people, .int f_led, .ref f9, .ref f10, .ref f11, .ref f12, .ref f13, .ref f14, .int f_waySteps, .int f_wayWidth])), (f1, .inl (cI, 16, .inl f_from)), (f2, .inl (cI, 16, .inl f_to)), (f3, .inl (cI, 16, .inl f_width)), (f4, .inl (cI, 16, .inl f_length)), (f5, .inl (cI, 16, .inl f_shut)), (f9, .inl (cI, 6, .inl f_notLed)), (f10, .inl (cI, 976, .inl f_entering)), (f11, .inl (cI, 6, .inl f_latest)), (f12, .inl (cI, 366, .inl f_step)), (f13, .inl (cI, 366, .inl f_wayEntry)), (f14, .inl (cZ, 366, .inl f_wayAhead))]) post) _ s 0 0 A) (F0 m 0 ls []) by rw [hH] at hgoal; exact hgoal
  obtain ⟨locs, hlo⟩ : ∃ locs : List Loc, locs = [] := ⟨_, rfl⟩
  rw [← hlo] at hS ⊢
  rw [vc_X0_lastUse] at hv
  refine lv_bipush (v := 6) hx hb dX0_lastUse_0 (by decide) ?_
  refine lv_iload_n hx hb dX0_lastUse_2 rfl (lv_at hl 1 rfl) ?_
  refine lv_iadd hx hb dX0_lastUse_3 ?_
  refine lv_bipush (v := 61) hx hb dX0_lastUse_4 (by decide) ?_
  refine lv_imul hx hb dX0_lastUse_6 ?_
  refine lv_topi (fun x2_1 ex2_1 => ?_)
  have hv := hv x2_1 ex2_1
  refine lv_istore_n (lv' := [(2, .int x2_1), (0, .ref fh), (1, .int a1)]) hx hb dX0_lastUse_7 rfl hl (by decide) rfl (fun ls hl => ?_)
  refine lv_bipush (v := 60) hx hb dX0_lastUse_8 (by decide) ?_
  refine lv_istore_n (lv' := [(3, .int 60), (2, .int x2_1), (0, .ref fh), (1, .int a1)]) hx hb dX0_lastUse_10 rfl hl (by decide) rfl (fun ls hl => ?_)
  obtain ⟨n_4, hv⟩ := hv
  refine w_X0_lastUse_L11 fh f1 f2 f3 f4 f5 f9 f10 f11 f12 f13 f14 x2_1 f_lanes f_from f_to f_width f_length f_shut f_safeRooms f_people f_led f_notLed f_entering f_latest f_step f_wayEntry f_wayAhead f_waySteps f_wayWidth post C _ (fun  H locs ls hv hP hD hS hl => ?_) n_4 60 H locs ls hv hP hD hS (lv_sub hl [2, 1, 0] rfl)
  refine lv_iconst (v := (-1)) hx hb dX0_lastUse_34 (by decide) ?_
  exact lw_iret C () hv hP hD hS dX0_lastUse_35

def vc_X2_allPeople_L4 (K : Int32 → Prop) (q_people : (Nat → Int32)) : Nat → Int32 → Int32 → Prop
  | 0, _, _ => False
  | n + 1, v1, v2 =>
    ((6 ≤ v2 → K v1) ∧ (¬ 6 ≤ v2 → (vp_in v2 6 ∧ (∀ x1_2 : Int32, x1_2 = (v1 + (q_people v2.toNatClampNeg)) → (∀ x2_3 : Int32, x2_3 = v2 + 1 → vc_X2_allPeople_L4 K q_people n x1_2 x2_3)))))

set_option maxHeartbeats 4000000 in
set_option maxRecDepth 100000 in
theorem w_X2_allPeople_L4 {p : Program} {l : Launch} {e : Env} {s : State} {m : MethodId} {args : Array Value} {below : List Frame} {meth : Method} {c : Code} {D : va_G} {cI cZ : ClassId} {A : Nat → Prop} {Q : State → Prop} (qh q0 q1 q4 q5 q6 q7 q8 : Nat) (q_people : (Nat → Int32)) (q_area : (Nat → Int32)) (q_safeRooms : Int32) (q_passages : Int32) (q_from : (Nat → Int32)) (q_to : (Nat → Int32)) (q_width : (Nat → Int32)) (q_length : (Nat → Int32)) (q_shut : (Nat → Int32)) (C : lw_Cx D cI cZ p s m args meth c cX2_allPeople 3 (some .int) RX2 A) (K : Int32 → Prop) (hKx : ∀ (k1 : Int32) (H : Heap) (locs : List Loc) (ls : Array Slot), K k1 → va_P D vwCl [(qh, .inr (2, [.ref q0, .ref q1, .int q_safeRooms, .int q_passages, .ref q4, .ref q5, .ref q6, .ref q7, .ref q8])), (q0, .inl (cI, 6, .inl q_people)), (q1, .inl (cI, 6, .inl q_area)), (q4, .inl (cI, 10, .inl q_from)), (q5, .inl (cI, 10, .inl q_to)), (q6, .inl (cI, 10, .inl q_width)), (q7, .inl (cI, 10, .inl q_length)), (q8, .inl (cI, 10, .inl q_shut))] H → va_D A [(qh, .inr (2, [.ref q0, .ref q1, .int q_safeRooms, .int q_passages, .ref q4, .ref q5, .ref q6, .ref q7, .ref q8])), (q0, .inl (cI, 6, .inl q_people)), (q1, .inl (cI, 6, .inl q_area)), (q4, .inl (cI, 10, .inl q_from)), (q5, .inl (cI, 10, .inl q_to)), (q6, .inl (cI, 10, .inl q_width)), (q7, .inl (cI, 10, .inl q_length)), (q8, .inl (cI, 10, .inl q_shut))] → va_S A s.heap H locs → lv_has ls 3 [(1, .int k1)] → W p l e ({ frames := 0, cells := 0, slots := 0, locals := 0 } : Room) s m args below meth c H locs 0 0 Q (F0 m 25 ls [])) :
    ∀ (n : Nat) (v1 : Int32) (v2 : Int32) (H : Heap) (locs : List Loc) (ls : Array Slot), vc_X2_allPeople_L4 K q_people n v1 v2 → va_P D vwCl [(qh, .inr (2, [.ref q0, .ref q1, .int q_safeRooms, .int q_passages, .ref q4, .ref q5, .ref q6, .ref q7, .ref q8])), (q0, .inl (cI, 6, .inl q_people)), (q1, .inl (cI, 6, .inl q_area)), (q4, .inl (cI, 10, .inl q_from)), (q5, .inl (cI, 10, .inl q_to)), (q6, .inl (cI, 10, .inl q_width)), (q7, .inl (cI, 10, .inl q_length)), (q8, .inl (cI, 10, .inl q_shut))] H → va_D A [(qh, .inr (2, [.ref q0, .ref q1, .int q_safeRooms, .int q_passages, .ref q4, .ref q5, .ref q6, .ref q7, .ref q8])), (q0, .inl (cI, 6, .inl q_people)), (q1, .inl (cI, 6, .inl q_area)), (q4, .inl (cI, 10, .inl q_from)), (q5, .inl (cI, 10, .inl q_to)), (q6, .inl (cI, 10, .inl q_width)), (q7, .inl (cI, 10, .inl q_length)), (q8, .inl (cI, 10, .inl q_shut))] → va_S A s.heap H locs → lv_has ls 3 [(0, .ref qh), (1, .int v1), (2, .int v2)] → W p l e ({ frames := 0, cells := 0, slots := 0, locals := 0 } : Room) s m args below meth c H locs 0 0 Q (F0 m 4 ls []) := by
  obtain ⟨hx, hb, hr, hml, hown, hts, hlocks, hN, hK, hA⟩ := id C
  intro n
  induction n with
  | zero =>
    intro v1 v2 H locs ls hv
    exact False.elim hv
  | succ n ih =>
    intro v1 v2 H locs ls hv hP hD hS hl
    rw [vc_X2_allPeople_L4] at hv
    refine lv_iload_n hx hb dX2_allPeople_4 rfl (lv_at hl 2 rfl) ?_
    refine lv_bipush (v := 6) hx hb dX2_allPeople_5 (by decide) ?_
    refine lv_icmp_ge (tgt := 25) hx hb dX2_allPeople_7 (by decide) (fun c9 => ?_) (fun c9 => ?_)
    · have hv := hv.1 c9
      exact hKx v1 H locs ls hv hP hD hS (lv_sub hl [1] rfl)
    · have hv := hv.2 c9
      refine lv_iload_n hx hb dX2_allPeople_10 rfl (lv_at hl 1 rfl) ?_
      refine lv_aload_n hx hb dX2_allPeople_11 rfl (lv_at hl 0 rfl) ?_
      refine va_get (D := D) (ci := 2) (v := .ref q0) (C := RX2) (T := TX2) (N := 9) hx hb hts iX2 hown hK hP 0 rfl rfl 0 (by decide) (hts _ kw_97) (fun _ h9 => h9) rfl dX2_allPeople_12 ?_
      refine lv_iload_n hx hb dX2_allPeople_15 rfl (lv_at hl 2 rfl) ?_
      obtain ⟨hi_1, hv⟩ := hv
      refine va_iald hx hb hK hP 1 0 rfl rfl hi_1 dX2_allPeople_16 ?_
      refine lv_iadd hx hb dX2_allPeople_17 ?_
      refine lv_topi (fun x1_2 ex1_2 => ?_)
      have hv := hv x1_2 ex1_2
      refine lv_istore_n (lv' := [(1, .int x1_2), (0, .ref qh), (2, .int v2)]) hx hb dX2_allPeople_18 rfl hl (by decide) rfl (fun ls hl => ?_)
      obtain ⟨x2_3, ex2_3⟩ : ∃ y : Int32, y = v2 + 1 := ⟨_, rfl⟩
      have hv := hv x2_3 ex2_3
      refine lv_iinc (v := x2_3) (lv' := [(2, .int x2_3), (1, .int x1_2), (0, .ref qh)]) hx hb dX2_allPeople_19 hl (k := 2) rfl (by rw [ex2_3]; rfl) (by decide) rfl (fun ls hl => ?_)
      refine lv_goto (tgt := 4) hx hb dX2_allPeople_22 (by decide) ?_
      exact ih x1_2 x2_3 H locs ls hv hP hD hS (lv_sub hl [2, 1, 0] rfl)

def vc_X2_allPeople (q_people : (Nat → Int32)) (post : Int32 → Unit → Prop) : Prop :=
  (∃ n_5, vc_X2_allPeople_L4 (fun k1_4 => post k1_4 ())  q_people n_5 0 0)

set_option maxHeartbeats 4000000 in
set_option maxRecDepth 100000 in
theorem m_X2_allPeople (l : Launch) (D : va_G) (cI cZ : ClassId) (qh q0 q1 q4 q5 q6 q7 q8 : Nat) (q_people : (Nat → Int32)) (q_area : (Nat → Int32)) (q_safeRooms : Int32) (q_passages : Int32) (q_from : (Nat → Int32)) (q_to : (Nat → Int32)) (q_width : (Nat → Int32)) (q_length : (Nat → Int32)) (q_shut : (Nat → Int32)) (sz : Nat) {post : Int32 → Unit → Prop} (hv : vc_X2_allPeople q_people post) :
    Met l yX2_allPeople (Cond.code yX2_allPeople cX2_allPeople 3 (some .int) :: lw_good) ({ frames := 0, cells := 0, slots := 0, locals := 0 } : Room) (va_Pc [.ref qh] (lw_B D cI cZ [(qh, .inr (2, [.ref q0, .ref q1, .int q_safeRooms, .int q_passages, .ref q4, .ref q5, .ref q6, .ref q7, .ref q8])), (q0, .inl (cI, 6, .inl q_people)), (q1, .inl (cI, 6, .inl q_area)), (q4, .inl (cI, 10, .inl q_from)), (q5, .inl (cI, 10, .inl q_to)), (q6, .inl (cI, 10, .inl q_width)), (q7, .inl (cI, 10, .inl q_length)), (q8, .inl (cI, 10, .inl q_shut))] sz)) (lw_Qi D cI cZ (va_A [(qh, .inr (2, [.ref q0, .ref q1, .int q_safeRooms, .int q_passages, .ref q4, .ref q5, .ref q6, .ref q7, .ref q8])), (q0, .inl (cI, 6, .inl q_people)), (q1, .inl (cI, 6, .inl q_area)), (q4, .inl (cI, 10, .inl q_from)), (q5, .inl (cI, 10, .inl q_to)), (q6, .inl (cI, 10, .inl q_width)), (q7, .inl (cI, 10, .inl q_length)), (q8, .inl (cI, 10, .inl q_shut))] sz) (fun u : Unit => [(qh, .inr (2, [.ref q0, .ref q1, .int q_safeRooms, .int q_passages, .ref q4, .ref q5, .ref q6, .ref q7, .ref q8])), (q0, .inl (cI, 6, .inl q_people)), (q1, .inl (cI, 6, .inl q_area)), (q4, .inl (cI, 10, .inl q_from)), (q5, .inl (cI, 10, .inl q_to)), (q6, .inl (cI, 10, .inl q_width)), (q7, .inl (cI, 10, .inl q_length)), (q8, .inl (cI, 10, .inl q_shut))]) post) 0 0 (va_A [(qh, .inr (2, [.ref q0, .ref q1, .int q_safeRooms, .int q_passages, .ref q4, .ref q5, .ref q6, .ref q7, .ref q8])), (q0, .inl (cI, 6, .inl q_people)), (q1, .inl (cI, 6, .inl q_area)), (q4, .inl (cI, 10, .inl q_from)), (q5, .inl (cI, 10, .inl q_to)), (q6, .inl (cI, 10, .inl q_width)), (q7, .inl (cI, 10, .inl q_length)), (q8, .inl (cI, 10, .inl q_shut))] sz) := by
  refine lw_met (Q := fun A => lw_Qi D cI cZ A (fun u : Unit => [(qh, .inr (2, [.ref q0, .ref q1, .int q_safeRooms, .int q_passages, .ref q4, .ref q5, .ref q6, .ref q7, .ref q8])), (q0, .inl (cI, 6, .inl q_people)), (q1, .inl (cI, 6, .inl q_area)), (q4, .inl (cI, 10, .inl q_from)), (q5, .inl (cI, 10, .inl q_to)), (q6, .inl (cI, 10, .inl q_width)), (q7, .inl (cI, 10, .inl q_length)), (q8, .inl (cI, 10, .inl q_shut))]) post) (by decide) (Nat.le_of_ble_eq_true rfl) ?_
  intro p e s m below meth c A C hnm hP hD hS ls hl
  have C : lw_Cx D cI cZ p s m _ meth c cX2_allPeople 3 (some .int) RX2 A := C
  obtain ⟨hx, hb, hr, hml, hown, hts, hlocks, hN, hK, hA⟩ := id C
  have hl : lv_has ls 3 [(0, .ref qh)] := hl
  obtain ⟨H, hH⟩ : ∃ H, H = s.heap := ⟨_, rfl⟩
  rw [← hH] at hP
  have hS : va_S A s.heap H [] := by rw [hH]; exact hS
  suffices hgoal : W p l e ({ frames := 0, cells := 0, slots := 0, locals := 0 } : Room) s m _ below meth c H [] 0 0 (MQ below (lw_Qi D cI cZ A (fun u : Unit => [(qh, .inr (2, [.ref q0, .ref q1, .int q_safeRooms, .int q_passages, .ref q4, .ref q5, .ref q6, .ref q7, .ref q8])), (q0, .inl (cI, 6, .inl q_people)), (q1, .inl (cI, 6, .inl q_area)), (q4, .inl (cI, 10, .inl q_from)), (q5, .inl (cI, 10, .inl q_to)), (q6, .inl (cI, 10, .inl q_width)), (q7, .inl (cI, 10, .inl q_length)), (q8, .inl (cI, 10, .inl q_shut))]) post) _ s 0 0 A) (F0 m 0 ls []) by rw [hH] at hgoal; exact hgoal
  obtain ⟨locs, hlo⟩ : ∃ locs : List Loc, locs = [] := ⟨_, rfl⟩
  rw [← hlo] at hS ⊢
  rw [vc_X2_allPeople] at hv
  refine lv_iconst (v := 0) hx hb dX2_allPeople_0 (by decide) ?_
  refine lv_istore_n (lv' := [(1, .int 0), (0, .ref qh)]) hx hb dX2_allPeople_1 rfl hl (by decide) rfl (fun ls hl => ?_)
  refine lv_iconst (v := 0) hx hb dX2_allPeople_2 (by decide) ?_
  refine lv_istore_n (lv' := [(2, .int 0), (1, .int 0), (0, .ref qh)]) hx hb dX2_allPeople_3 rfl hl (by decide) rfl (fun ls hl => ?_)
  obtain ⟨n_5, hv⟩ := hv
  refine w_X2_allPeople_L4 qh q0 q1 q4 q5 q6 q7 q8 q_people q_area q_safeRooms q_passages q_from q_to q_width q_length q_shut C _ (fun k1_4 H locs ls hv hP hD hS hl => ?_) n_5 0 0 H locs ls hv hP hD hS (lv_sub hl [2, 1, 0] rfl)
  refine lv_iload_n hx hb dX2_allPeople_25 rfl (lv_at hl 0 rfl) ?_
  exact lw_iret C () hv hP hD hS dX2_allPeople_26
