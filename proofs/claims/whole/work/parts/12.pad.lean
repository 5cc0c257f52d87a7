def vc_X1_add (a1 : Int32) (d_signs : (Nat → Int32)) (d_size : Int32) (post : ((Nat → Int32) × Int32) → Prop) : Prop :=
  ((40 ≤ d_size → post (d_signs, d_size)) ∧ (¬ 40 ≤ d_size → (vp_in d_size 40 ∧ post ((upd d_signs d_size.toNatClampNeg a1), (d_size + 1)))))

set_option maxHeartbeats 4000000 in
set_option maxRecDepth 100000 in
theorem m_X1_add (l : Launch) (D : va_G) (cI cZ : ClassId) (dh d0 : Nat) (a1 : Int32) (d_signs : (Nat → Int32)) (d_size : Int32) (sz : Nat) {post : ((Nat → Int32) × Int32) → Prop} (hv : vc_X1_add a1 d_signs d_size post) :
    Met l yX1_add (Cond.code yX1_add cX1_add 2 none :: lw_good) ({ frames := 0, cells := 0, slots := 0, locals := 0 } : Room) (va_Pc [.ref dh, .int a1] (lw_B D cI cZ [(dh, .inr (1, [.ref d0, .int d_size])), (d0, .inl (cI, 40, .inl d_signs))] sz)) (lw_Qv D cI cZ (va_A [(dh, .inr (1, [.ref d0, .int d_size])), (d0, .inl (cI, 40, .inl d_signs))] sz) (fun u : (Nat → Int32) × Int32 => [(dh, .inr (1, [.ref d0, .int u.2])), (d0, .inl (cI, 40, .inl u.1))]) post) 0 0 (va_A [(dh, .inr (1, [.ref d0, .int d_size])), (d0, .inl (cI, 40, .inl d_signs))] sz) := by
  refine lw_met (Q := fun A => lw_Qv D cI cZ A (fun u : (Nat → Int32) × Int32 => [(dh, .inr (1, [.ref d0, .int u.2])), (d0, .inl (cI, 40, .inl u.1))]) post) (by decide) (Nat.le_of_ble_eq_true rfl) ?_
  intro p e s m below meth c A C hnm hP hD hS ls hl
  have C : lw_Cx D cI cZ p s m _ meth c cX1_add 2 none RX1 A := C
  obtain ⟨hx, hb, hr, hml, hown, hts, hlocks, hN, hK, hA⟩ := id C
  have hl : lv_has ls 2 [(0, .ref dh), (1, .int a1)] := hl
  obtain ⟨H, hH⟩ : ∃ H, H = s.heap := ⟨_, rfl⟩
  rw [← hH] at hP
  have hS : va_S A s.heap H [] := by rw [hH]; exact hS
  suffices hgoal : W p l e ({ frames := 0, cells := 0, slots := 0, locals := 0 } : Room) s m #[.ref dh, .int a1] below meth c H [] 0 0 (MQ below (lw_Qv D cI cZ A (fun u : (Nat → Int32) × Int32 => [(dh, .inr (1, [.ref d0, .int u.2])), (d0, .inl (cI, 40, .inl u.1))]) post) #[.ref dh, .int a1] s 0 0 A) (F0 m 0 ls []) by rw [hH] at hgoal; exact hgoal
  obtain ⟨locs, hlo⟩ : ∃ locs : List Loc, locs = [] := ⟨_, rfl⟩
  rw [← hlo] at hS ⊢
  rw [vc_X1_add] at hv
  refine lv_aload_n hx hb dX1_add_0 rfl (lv_at hl 0 rfl) ?_
  refine va_get (D := D) (ci := 1) (v := .int d_size) (C := RX1) (T := TX1) (N := 2) hx hb hts iX1 hown hK hP 0 rfl rfl 1 (by decide) (hts _ kw_158) (fun _ h9 => h9) rfl dX1_add_1 ?_
  refine lv_bipush (v := 40) hx hb dX1_add_4 (by decide) ?_
  refine lv_icmp_ge (tgt := 29) hx hb dX1_add_6 (by decide) (fun c9 => ?_) (fun c9 => ?_)
  · have hv := hv.1 c9
    exact lw_vret C (d_signs, d_size) hv hP hD hS dX1_add_29
  · have hv := hv.2 c9
    refine lv_aload_n hx hb dX1_add_9 rfl (lv_at hl 0 rfl) ?_
    refine va_get (D := D) (ci := 1) (v := .ref d0) (C := RX1) (T := TX1) (N := 2) hx hb hts iX1 hown hK hP 0 rfl rfl 0 (by decide) (hts _ kw_157) (fun _ h9 => h9) rfl dX1_add_10 ?_
    refine lv_aload_n hx hb dX1_add_13 rfl (lv_at hl 0 rfl) ?_
    refine va_get (D := D) (ci := 1) (v := .int d_size) (C := RX1) (T := TX1) (N := 2) hx hb hts iX1 hown hK hP 0 rfl rfl 1 (by decide) (hts _ kw_158) (fun _ h9 => h9) rfl dX1_add_14 ?_
    refine lv_iload_n hx hb dX1_add_17 rfl (lv_at hl 1 rfl) ?_
    obtain ⟨hi_1, hv⟩ := hv
    refine va_iast hx hb hK hP hD hS 1 0 rfl rfl hi_1 dX1_add_18 (fun H locs hP hD hS => ?_)
    have hP : va_P D vwCl [(dh, .inr (1, [.ref d0, .int d_size])), (d0, .inl (cI, 40, .inl (upd d_signs d_size.toNatClampNeg a1)))] H := hP
    have hD : va_D A [(dh, .inr (1, [.ref d0, .int d_size])), (d0, .inl (cI, 40, .inl (upd d_signs d_size.toNatClampNeg a1)))] := hD
    refine lv_aload_n hx hb dX1_add_19 rfl (lv_at hl 0 rfl) ?_
    refine lv_dup hx hb dX1_add_20 rfl ?_
    refine va_get (D := D) (ci := 1) (v := .int d_size) (C := RX1) (T := TX1) (N := 2) hx hb hts iX1 hown hK hP 0 rfl rfl 1 (by decide) (hts _ kw_158) (fun _ h9 => h9) rfl dX1_add_21 ?_
    refine lv_iconst (v := 1) hx hb dX1_add_24 (by decide) ?_
    refine lv_iadd hx hb dX1_add_25 ?_
    refine va_put (D := D) (ci := 1) (v := .int (d_size + 1)) (ty := .int) (C := RX1) (T := TX1) (N := 2) hx hb hts iX1 tyX1 tyX1_ok nmX1 hown hK hP hD hS 0 rfl rfl 1 (by decide) (hts _ kw_158) (fun _ h9 => h9) rfl (by decide +kernel) rfl rfl (Nat.le_of_ble_eq_true rfl) dX1_add_26 (fun H locs hP hD hS => ?_)
    have hP : va_P D vwCl [(dh, .inr (1, [.ref d0, .int (d_size + 1)])), (d0, .inl (cI, 40, .inl (upd d_signs d_size.toNatClampNeg a1)))] H := hP
    have hD : va_D A [(dh, .inr (1, [.ref d0, .int (d_size + 1)])), (d0, .inl (cI, 40, .inl (upd d_signs d_size.toNatClampNeg a1)))] := hD
    exact lw_vret C ((upd d_signs d_size.toNatClampNeg a1), (d_size + 1)) hv hP hD hS dX1_add_29

def vc_X1_canStand (a1 : Int32) (d_signs : (Nat → Int32)) (post : Int32 → Unit → Prop) : Prop :=
  (vp_in a1 40 ∧ (∀ x2_2 : Int32, x2_2 = (d_signs a1.toNatClampNeg) → (∀ sw_3 : Int32, sw_3 = (a1 - a1 / 4 * 4) → ((sw_3 = 0 → (vc_X4_isRoom (x2_2 - 97) (fun (r_5 : Int32) (u_4 : Unit) => (narrow .boolean (.int r_5) = .int r_5 ∧ post r_5 ())))) ∧ (sw_3 = 1 → (vc_X4_isRoom (x2_2 - 97) (fun (r_7 : Int32) (u_6 : Unit) => ((r_7 = 0 → post 0 ()) ∧ (¬ r_7 = 0 → (vp_in (a1 - 1) 40 ∧ ((x2_2 = (d_signs ((a1 - 1)).toNatClampNeg) → post 0 ()) ∧ (¬ x2_2 = (d_signs ((a1 - 1)).toNatClampNeg) → post 1 ())))))))) ∧ (sw_3 = 2 → (vc_X4_isWithin (x2_2 - 48) 1 6 (fun (r_10 : Int32) (u_9 : Unit) => (narrow .boolean (.int r_10) = .int r_10 ∧ post r_10 ())))) ∧ (¬ sw_3 = 0 ∧ ¬ sw_3 = 1 ∧ ¬ sw_3 = 2 → (vc_X4_isWithin (x2_2 - 48) 1 4 (fun (r_12 : Int32) (u_11 : Unit) => (narrow .boolean (.int r_12) = .int r_12 ∧ post r_12 ()))))))))

set_option maxHeartbeats 4000000 in
set_option maxRecDepth 100000 in
theorem m_X1_canStand (l : Launch) (D : va_G) (cI cZ : ClassId) (dh d0 : Nat) (a1 : Int32) (d_signs : (Nat → Int32)) (d_size : Int32) (sz : Nat) {post : Int32 → Unit → Prop} (hv : vc_X1_canStand a1 d_signs post) :
    Met l yX1_canStand (Cond.code yX1_canStand cX1_canStand 3 (some .boolean) :: lw_good) ({ frames := 2, cells := 0, slots := 0, locals := 42 } : Room) (va_Pc [.ref dh, .int a1] (lw_B D cI cZ [(dh, .inr (1, [.ref d0, .int d_size])), (d0, .inl (cI, 40, .inl d_signs))] sz)) (lw_Qi D cI cZ (va_A [(dh, .inr (1, [.ref d0, .int d_size])), (d0, .inl (cI, 40, .inl d_signs))] sz) (fun u : Unit => [(dh, .inr (1, [.ref d0, .int d_size])), (d0, .inl (cI, 40, .inl d_signs))]) post) 0 0 (va_A [(dh, .inr (1, [.ref d0, .int d_size])), (d0, .inl (cI, 40, .inl d_signs))] sz) := by
  refine lw_met (Q := fun A => lw_Qi D cI cZ A (fun u : Unit => [(dh, .inr (1, [.ref d0, .int d_size])), (d0, .inl (cI, 40, .inl d_signs))]) post) (by decide) (Nat.le_of_ble_eq_true rfl) ?_
  intro p e s m below meth c A C hnm hP hD hS ls hl
  have C : lw_Cx D cI cZ p s m _ meth c cX1_canStand 3 (some .boolean) RX1 A := C
  obtain ⟨hx, hb, hr, hml, hown, hts, hlocks, hN, hK, hA⟩ := id C
  have hl : lv_has ls 3 [(0, .ref dh), (1, .int a1)] := hl
  obtain ⟨H, hH⟩ : ∃ H, H = s.heap := ⟨_, rfl⟩
  rw [← hH] at hP
  have hS : va_S A s.heap H [] := by rw [hH]; exact hS
  suffices hgoal : W p l e ({ frames := 2, cells := 0, slots := 0, locals := 42 } : Room) s m #[.ref dh, .int a1] below meth c H [] 0 0 (MQ below (lw_Qi D cI cZ A (fun u : Unit => [(dh, .inr (1, [.ref d0, .int d_size])), (d0, .inl (cI, 40, .inl d_signs))]) post) #[.ref dh, .int a1] s 0 0 A) (F0 m 0 ls []) by rw [hH] at hgoal; exact hgoal
  obtain ⟨locs, hlo⟩ : ∃ locs : List Loc, locs = [] := ⟨_, rfl⟩
  rw [← hlo] at hS ⊢
  rw [vc_X1_canStand] at hv
  refine lv_aload_n hx hb dX1_canStand_0 rfl (lv_at hl 0 rfl) ?_
  refine va_get (D := D) (ci := 1) (v := .ref d0) (C := RX1) (T := TX1) (N := 2) hx hb hts iX1 hown hK hP 0 rfl rfl 0 (by decide) (hts _ kw_157) (fun _ h9 => h9) rfl dX1_canStand_1 ?_
  refine lv_iload_n hx hb dX1_canStand_4 rfl (lv_at hl 1 rfl) ?_
  obtain ⟨hi_1, hv⟩ := hv
  refine va_iald hx hb hK hP 1 0 rfl rfl hi_1 dX1_canStand_5 ?_
  refine lv_topi (fun x2_2 ex2_2 => ?_)
  have hv := hv x2_2 ex2_2
  refine lv_istore_n (lv' := [(2, .int x2_2), (0, .ref dh), (1, .int a1)]) hx hb dX1_canStand_6 rfl hl (by decide) rfl (fun ls hl => ?_)
  refine lv_iload_n hx hb dX1_canStand_7 rfl (lv_at hl 2 rfl) ?_
  refine lv_iconst (v := 4) hx hb dX1_canStand_8 (by decide) ?_
  refine lv_irem hx hb dX1_canStand_9 (by decide) ?_
  refine lv_topi (fun sw_3 esw_3 => ?_)
  have hv := hv sw_3 esw_3
  rcases Decidable.em (sw_3 = 0) with h9_0 | h9_0
  · have hv := hv.1 h9_0
    refine lv_tableIn (off := 26) (tgt := 36) hx hb dX1_canStand_10 (by rw [h9_0]; decide) (by rw [h9_0]; decide) (by rw [h9_0]; rfl) (by decide) ?_
    refine lv_iload_n hx hb dX1_canStand_36 rfl (lv_at hl 0 rfl) ?_
    refine lv_bipush (v := 97) hx hb dX1_canStand_37 (by decide) ?_
    refine lv_isub hx hb dX1_canStand_39 ?_
    refine lw_calli (wr := [(dh, .inr (1, [.ref d0, .int d_size])), (d0, .inl (cI, 40, .inl d_signs))]) C (lw_runSN (own := RX1) (n := 1) C hP hD [] rfl rfl (m_X4_isRoom l D cI cZ (x2_2 - 97) H.size hv) kw_274 kw_336 kw_273 kw_68 (by decide +kernel) rfl ⟨rfl, rfl, Nat.le_of_ble_eq_true rfl, Nat.le_of_ble_eq_true rfl, Nat.le_of_ble_eq_true rfl, Nat.le_of_ble_eq_true rfl⟩ hl.1 rfl (Nat.le_of_ble_eq_true rfl) dX1_canStand_40) hP hD hS [] [0, 1] rfl rfl rfl (by decide +kernel) (fun r_5 u_4 H locs hv hP hD hS => ?_)
    have hP : va_P D vwCl [(dh, .inr (1, [.ref d0, .int d_size])), (d0, .inl (cI, 40, .inl d_signs))] H := hP.sub [0, 1] rfl
    have hD : va_D A [(dh, .inr (1, [.ref d0, .int d_size])), (d0, .inl (cI, 40, .inl d_signs))] := hD.sub [0, 1] rfl rfl
    exact lw_zret C () hv.1 hv.2 hP hD hS dX1_canStand_43
  rcases Decidable.em (sw_3 = 1) with h9_1 | h9_1
  · have hv := hv.2.1 h9_1
    refine lv_tableIn (off := 34) (tgt := 44) hx hb dX1_canStand_10 (by rw [h9_1]; decide) (by rw [h9_1]; decide) (by rw [h9_1]; rfl) (by decide) ?_
    refine lv_iload_n hx hb dX1_canStand_44 rfl (lv_at hl 0 rfl) ?_
    refine lv_bipush (v := 97) hx hb dX1_canStand_45 (by decide) ?_
    refine lv_isub hx hb dX1_canStand_47 ?_
    refine lw_calli (wr := [(dh, .inr (1, [.ref d0, .int d_size])), (d0, .inl (cI, 40, .inl d_signs))]) C (lw_runSN (own := RX1) (n := 1) C hP hD [] rfl rfl (m_X4_isRoom l D cI cZ (x2_2 - 97) H.size hv) kw_274 kw_336 kw_273 kw_68 (by decide +kernel) rfl ⟨rfl, rfl, Nat.le_of_ble_eq_true rfl, Nat.le_of_ble_eq_true rfl, Nat.le_of_ble_eq_true rfl, Nat.le_of_ble_eq_true rfl⟩ hl.1 rfl (Nat.le_of_ble_eq_true rfl) dX1_canStand_48) hP hD hS [] [0, 1] rfl rfl rfl (by decide +kernel) (fun r_7 u_6 H locs hv hP hD hS => ?_)
    have hP : va_P D vwCl [(dh, .inr (1, [.ref d0, .int d_size])), (d0, .inl (cI, 40, .inl d_signs))] H := hP.sub [0, 1] rfl
    have hD : va_D A [(dh, .inr (1, [.ref d0, .int d_size])), (d0, .inl (cI, 40, .inl d_signs))] := hD.sub [0, 1] rfl rfl
    refine lv_if_eq (tgt := 70) hx hb dX1_canStand_51 (by decide) (fun c9 => ?_) (fun c9 => ?_)
    · have hv := hv.1 c9
      refine lv_iconst (v := 0) hx hb dX1_canStand_70 (by decide) ?_
      exact lw_zret C () rfl hv hP hD hS dX1_canStand_71
    · have hv := hv.2 c9
      refine lv_iload_n hx hb dX1_canStand_54 rfl (lv_at hl 0 rfl) ?_
      refine lv_aload_n hx hb dX1_canStand_55 rfl (lv_at hl 1 rfl) ?_
      refine va_get (D := D) (ci := 1) (v := .ref d0) (C := RX1) (T := TX1) (N := 2) hx hb hts iX1 hown hK hP 0 rfl rfl 0 (by decide) (hts _ kw_157) (fun _ h9 => h9) rfl dX1_canStand_56 ?_
      refine lv_iload_n hx hb dX1_canStand_59 rfl (lv_at hl 2 rfl) ?_
      refine lv_iconst (v := 1) hx hb dX1_canStand_60 (by decide) ?_
      refine lv_isub hx hb dX1_canStand_61 ?_
      obtain ⟨hi_8, hv⟩ := hv
      refine va_iald hx hb hK hP 1 0 rfl rfl hi_8 dX1_canStand_62 ?_
      refine lv_icmp_eq (tgt := 70) hx hb dX1_canStand_63 (by decide) (fun c9 => ?_) (fun c9 => ?_)
      · have hv := hv.1 c9
        refine lv_iconst (v := 0) hx hb dX1_canStand_70 (by decide) ?_
        exact lw_zret C () rfl hv hP hD hS dX1_canStand_71
      · have hv := hv.2 c9
        refine lv_iconst (v := 1) hx hb dX1_canStand_66 (by decide) ?_
        refine lv_goto (tgt := 71) hx hb dX1_canStand_67 (by decide) ?_
        exact lw_zret C () rfl hv hP hD hS dX1_canStand_71
  rcases Decidable.em (sw_3 = 2) with h9_2 | h9_2
  · have hv := hv.2.2.1 h9_2
    refine lv_tableIn (off := 62) (tgt := 72) hx hb dX1_canStand_10 (by rw [h9_2]; decide) (by rw [h9_2]; decide) (by rw [h9_2]; rfl) (by decide) ?_
    refine lv_iload_n hx hb dX1_canStand_72 rfl (lv_at hl 0 rfl) ?_
    refine lv_bipush (v := 48) hx hb dX1_canStand_73 (by decide) ?_
    refine lv_isub hx hb dX1_canStand_75 ?_
    refine lv_iconst (v := 1) hx hb dX1_canStand_76 (by decide) ?_
    refine lv_bipush (v := 6) hx hb dX1_canStand_77 (by decide) ?_
    refine lw_calli (wr := [(dh, .inr (1, [.ref d0, .int d_size])), (d0, .inl (cI, 40, .inl d_signs))]) C (lw_runSN (own := RX1) (n := 3) C hP hD [] rfl rfl (m_X4_isWithin l D cI cZ (x2_2 - 48) 1 6 H.size hv) kw_277 kw_337 kw_276 kw_68 (by decide +kernel) rfl ⟨rfl, rfl, Nat.le_of_ble_eq_true rfl, Nat.le_of_ble_eq_true rfl, Nat.le_of_ble_eq_true rfl, Nat.le_of_ble_eq_true rfl⟩ hl.1 rfl (Nat.le_of_ble_eq_true rfl) dX1_canStand_79) hP hD hS [] [0, 1] rfl rfl rfl (by decide +kernel) (fun r_10 u_9 H locs hv hP hD hS => ?_)
    have hP : va_P D vwCl [(dh, .inr (1, [.ref d0, .int d_size])), (d0, .inl (cI, 40, .inl d_signs))] H := hP.sub [0, 1] rfl
    have hD : va_D A [(dh, .inr (1, [.ref d0, .int d_size])), (d0, .inl (cI, 40, .inl d_signs))] := hD.sub [0, 1] rfl rfl
    exact lw_zret C () hv.1 hv.2 hP hD hS dX1_canStand_82
  have hv := hv.2.2.2 ⟨h9_0, h9_1, h9_2⟩
  refine lv_tableOut (tgt := 83) hx hb dX1_canStand_10 (lw_sw2 h9_0 h9_1 h9_2) (by decide) ?_
  refine lv_iload_n hx hb dX1_canStand_83 rfl (lv_at hl 0 rfl) ?_
  refine lv_bipush (v := 48) hx hb dX1_canStand_84 (by decide) ?_
  refine lv_isub hx hb dX1_canStand_86 ?_
  refine lv_iconst (v := 1) hx hb dX1_canStand_87 (by decide) ?_
  refine lv_iconst (v := 4) hx hb dX1_canStand_88 (by decide) ?_
  refine lw_calli (wr := [(dh, .inr (1, [.ref d0, .int d_size])), (d0, .inl (cI, 40, .inl d_signs))]) C (lw_runSN (own := RX1) (n := 3) C hP hD [] rfl rfl (m_X4_isWithin l D cI cZ (x2_2 - 48) 1 4 H.size hv) kw_277 kw_337 kw_276 kw_68 (by decide +kernel) rfl ⟨rfl, rfl, Nat.le_of_ble_eq_true rfl, Nat.le_of_ble_eq_true rfl, Nat.le_of_ble_eq_true rfl, Nat.le_of_ble_eq_true rfl⟩ hl.1 rfl (Nat.le_of_ble_eq_true rfl) dX1_canStand_89) hP hD hS [] [0, 1] rfl rfl rfl (by decide +kernel) (fun r_12 u_11 H locs hv hP hD hS => ?_)
  have hP : va_P D vwCl [(dh, .inr (1, [.ref d0, .int d_size])), (d0, .inl (cI, 40, .inl d_signs))] H := hP.sub [0, 1] rfl
  have hD : va_D A [(dh, .inr (1, [.ref d0, .int d_size])), (d0, .inl (cI, 40, .inl d_signs))] := hD.sub [0, 1] rfl rfl
  exact lw_zret C () hv.1 hv.2 hP hD hS dX1_canStand_92

def vc_X1_faultPlace_L2 (K : Prop) (post : Int32 → Unit → Prop) (d_signs : (Nat → Int32)) (d_size : Int32) : Nat → Int32 → Prop
  | 0, _ => False
  | n + 1, v1 =>
    ((d_size ≤ v1 → K) ∧ (¬ d_size ≤ v1 → (vc_X1_canStand v1 d_signs (fun (r_2 : Int32) (u_1 : Unit) => ((¬ r_2 = 0 → (∀ x1_3 : Int32, x1_3 = v1 + 1 → vc_X1_faultPlace_L2 K post d_signs d_size n x1_3)) ∧ (r_2 = 0 → post v1 ()))))))

set_option maxHeartbeats 4000000 in
set_option maxRecDepth 100000 in
theorem w_X1_faultPlace_L2 {p : Program} {l : Launch} {e : Env} {s : State} {m : MethodId} {args : Array Value} {below : List Frame} {meth : Method} {c : Code} {D : va_G} {cI cZ : ClassId} {A : Nat → Prop} (dh d0 : Nat) (d_signs : (Nat → Int32)) (d_size : Int32) (post : Int32 → Unit → Prop) (C : lw_Cx D cI cZ p s m args meth c cX1_faultPlace 2 (some .int) RX1 A) (K : Prop) (hKx : ∀  (H : Heap) (locs : List Loc) (ls : Array Slot), K  → va_P D vwCl [(dh, .inr (1, [.ref d0, .int d_size])), (d0, .inl (cI, 40, .inl d_signs))] H → va_D A [(dh, .inr (1, [.ref d0, .int d_size])), (d0, .inl (cI, 40, .inl d_signs))] → va_S A s.heap H locs → lv_has ls 2 [(0, .ref dh)] → W p l e ({ frames := 3, cells := 0, slots := 0, locals := 64 } : Room) s m args below meth c H locs 0 0 (MQ below (lw_Qi D cI cZ A (fun u : Unit => [(dh, .inr (1, [.ref d0, .int d_size])), (d0, .inl (cI, 40, .inl d_signs))]) post) args s 0 0 A) (F0 m 26 ls [])) :
    ∀ (n : Nat) (v1 : Int32) (H : Heap) (locs : List Loc) (ls : Array Slot), vc_X1_faultPlace_L2 K post d_signs d_size n v1 → va_P D vwCl [(dh, .inr (1, [.ref d0, .int d_size])), (d0, .inl (cI, 40, .inl d_signs))] H → va_D A [(dh, .inr (1, [.ref d0, .int d_size])), (d0, .inl (cI, 40, .inl d_signs))] → va_S A s.heap H locs → lv_has ls 2 [(0, .ref dh), (1, .int v1)] → W p l e ({ frames := 3, cells := 0, slots := 0, locals := 64 } : Room) s m args below meth c H locs 0 0 (MQ below (lw_Qi D cI cZ A (fun u : Unit => [(dh, .inr (1, [.ref d0, .int d_size])), (d0, .inl (cI, 40, .inl d_signs))]) post) args s 0 0 A) (F0 m 2 ls []) := by
  obtain ⟨hx, hb, hr, hml, hown, hts, hlocks, hN, hK, hA⟩ := id C
  intro n
  induction n with
  | zero =>
    intro v1 H locs ls hv
    exact False.elim hv
  | succ n ih =>
    intro v1 H locs ls hv hP hD hS hl
    rw [vc_X1_faultPlace_L2] at hv
    refine lv_iload_n hx hb dX1_faultPlace_2 rfl (lv_at hl 1 rfl) ?_
    refine lv_aload_n hx hb dX1_faultPlace_3 rfl (lv_at hl 0 rfl) ?_
    refine va_get (D := D) (ci := 1) (v := .int d_size) (C := RX1) (T := TX1) (N := 2) hx hb hts iX1 hown hK hP 0 rfl rfl 1 (by decide) (hts _ kw_158) (fun _ h9 => h9) rfl dX1_faultPlace_4 ?_
    refine lv_icmp_ge (tgt := 26) hx hb dX1_faultPlace_7 (by decide) (fun c9 => ?_) (fun c9 => ?_)
    · have hv := hv.1 c9
      exact hKx  H locs ls hv hP hD hS (lv_sub hl [0] rfl)
    · have hv := hv.2 c9
      refine lv_aload_n hx hb dX1_faultPlace_10 rfl (lv_at hl 0 rfl) ?_
      refine lv_iload_n hx hb dX1_faultPlace_11 rfl (lv_at hl 1 rfl) ?_
      refine lw_calli (wr := []) C (lw_runV (own := RX1) (n := 1) C hP hD [0, 1] rfl rfl 1 rfl rfl rfl (m_X1_canStand l D cI cZ dh d0 v1 d_signs d_size H.size hv) kw_335 kw_332 kw_334 kw_5 kw_71 (by decide +kernel) rfl ⟨rfl, rfl, Nat.le_of_ble_eq_true rfl, Nat.le_of_ble_eq_true rfl, Nat.le_of_ble_eq_true rfl, Nat.le_of_ble_eq_true rfl⟩ hl.1 rfl (Nat.le_of_ble_eq_true rfl) dX1_faultPlace_12) hP hD hS [0, 1] [] rfl rfl rfl (by decide +kernel) (fun r_2 u_1 H locs hv hP hD hS => ?_)
      have hP : va_P D vwCl [(dh, .inr (1, [.ref d0, .int d_size])), (d0, .inl (cI, 40, .inl d_signs))] H := hP
      have hD : va_D A [(dh, .inr (1, [.ref d0, .int d_size])), (d0, .inl (cI, 40, .inl d_signs))] := hD
      refine lv_if_ne (tgt := 20) hx hb dX1_faultPlace_15 (by decide) (fun c9 => ?_) (fun c9 => ?_)
      · have hv := hv.1 c9
        obtain ⟨x1_3, ex1_3⟩ : ∃ y : Int32, y = v1 + 1 := ⟨_, rfl⟩
        have hv := hv x1_3 ex1_3
        refine lv_iinc (v := x1_3) (lv' := [(1, .int x1_3), (0, .ref dh)]) hx hb dX1_faultPlace_20 hl (k := 1) rfl (by rw [ex1_3]; rfl) (by decide) rfl (fun ls hl => ?_)
        refine lv_goto (tgt := 2) hx hb dX1_faultPlace_23 (by decide) ?_
        exact ih x1_3 H locs ls hv hP hD hS (lv_sub hl [1, 0] rfl)
      · have hv := hv.2 c9
        refine lv_iload_n hx hb dX1_faultPlace_18 rfl (lv_at hl 1 rfl) ?_
        exact lw_iret C () hv hP hD hS dX1_faultPlace_19

def vc_X1_faultPlace (d_signs : (Nat → Int32)) (d_size : Int32) (post : Int32 → Unit → Prop) : Prop :=
  (∃ n_4, vc_X1_faultPlace_L2 (((¬ (d_size - d_size / 4 * 4) = 0 → post d_size ()) ∧ ((d_size - d_size / 4 * 4) = 0 → post (-6) ()))) post d_signs d_size n_4 0)

set_option maxHeartbeats 4000000 in
set_option maxRecDepth 100000 in
theorem m_X1_faultPlace (l : Launch) (D : va_G) (cI cZ : ClassId) (dh d0 : Nat) (d_signs : (Nat → Int32)) (d_size : Int32) (sz : Nat) {post : Int32 → Unit → Prop} (hv : vc_X1_faultPlace d_signs d_size post) :
    Met l yX1_faultPlace (Cond.code yX1_faultPlace cX1_faultPlace 2 (some .int) :: lw_good) ({ frames := 3, cells := 0, slots := 0, locals := 64 } : Room) (va_Pc [.ref dh] (lw_B D cI cZ [(dh, .inr (1, [.ref d0, .int d_size])), (d0, .inl (cI, 40, .inl d_signs))] sz)) (lw_Qi D cI cZ (va_A [(dh, .inr (1, [.ref d0, .int d_size])), (d0, .inl (cI, 40, .inl d_signs))] sz) (fun u : Unit => [(dh, .inr (1, [.ref d0, .int d_size])), (d0, .inl (cI, 40, .inl d_signs))]) post) 0 0 (va_A [(dh, .inr (1, [.ref d0, .int d_size])), (d0, .inl (cI, 40, .inl d_signs))] sz) := by
  refine lw_met (Q := fun A => lw_Qi D cI cZ A (fun u : Unit => [(dh, .inr (1, [.ref d0, .int d_size])), (d0, .inl (cI, 40, .inl d_signs))]) post) (by decide) (Nat.le_of_ble_eq_true rfl) ?_
  intro p e s m below meth c A C hnm hP hD hS ls hl
  have C : lw_Cx D cI cZ p s m _ meth c cX1_faultPlace 2 (some .int) RX1 A := C
  obtain ⟨hx, hb, hr, hml, hown, hts, hlocks, hN, hK, hA⟩ := id C
  have hl : lv_has ls 2 [(0, .ref dh)] := hl
  obtain ⟨H, hH⟩ : ∃ H, H = s.heap := ⟨_, rfl⟩
  rw [← hH] at hP
  have hS : va_S A s.heap H [] := by rw [hH]; exact hS
  suffices hgoal : W p l e ({ frames := 3, cells := 0, slots := 0, locals := 64 } : Room) s m #[.ref dh] below meth c H [] 0 0 (MQ below (lw_Qi D cI cZ A (fun u : Unit => [(dh, .inr (1, [.ref d0, .int d_size])), (d0, .inl (cI, 40, .inl d_signs))]) post) #[.ref dh] s 0 0 A) (F0 m 0 ls []) by rw [hH] at hgoal; exact hgoal
  obtain ⟨locs, hlo⟩ : ∃ locs : List Loc, locs = [] := ⟨_, rfl⟩
  rw [← hlo] at hS ⊢
  rw [vc_X1_faultPlace] at hv
  refine lv_iconst (v := 0) hx hb dX1_faultPlace_0 (by decide) ?_
  refine lv_istore_n (lv' := [(1, .int 0), (0, .ref dh)]) hx hb dX1_faultPlace_1 rfl hl (by decide) rfl (fun ls hl => ?_)
  obtain ⟨n_4, hv⟩ := hv
  refine w_X1_faultPlace_L2 dh d0 d_signs d_size post C _ (fun  H locs ls hv hP hD hS hl => ?_) n_4 0 H locs ls hv hP hD hS (lv_sub hl [1, 0] rfl)
  refine lv_aload_n hx hb dX1_faultPlace_26 rfl (lv_at hl 0 rfl) ?_
  refine va_get (D := D) (ci := 1) (v := .int d_size) (C := RX1) (T := TX1) (N := 2) hx hb hts iX1 hown hK hP 0 rfl rfl 1 (by decide) (hts _ kw_158) (fun _ h9 => h9) rfl dX1_faultPlace_27 ?_
  refine lv_iconst (v := 4) hx hb dX1_faultPlace_30 (by decide) ?_
  refine lv_irem hx hb dX1_faultPlace_31 (by decide) ?_
  refine lv_if_ne (tgt := 40) hx hb dX1_faultPlace_32 (by decide) (fun c9 => ?_) (fun c9 => ?_)
  · have hv := hv.1 c9
    refine lv_aload_n hx hb dX1_faultPlace_40 rfl (lv_at hl 0 rfl) ?_
    refine va_get (D := D) (ci := 1) (v := .int d_size) (C := RX1) (T := TX1) (N := 2) hx hb hts iX1 hown hK hP 0 rfl rfl 1 (by decide) (hts _ kw_158) (fun _ h9 => h9) rfl dX1_faultPlace_41 ?_
    exact lw_iret C () hv hP hD hS dX1_faultPlace_44
  · have hv := hv.2 c9
    refine lv_bipush (v := (-6)) hx hb dX1_faultPlace_35 (by decide) ?_
    refine lv_goto (tgt := 44) hx hb dX1_faultPlace_37 (by decide) ?_
    exact lw_iret C () hv hP hD hS dX1_faultPlace_44

def vc_X1_moveInto_L2 (K : Int32 → (Nat → Int32) → (Nat → Int32) → (Nat → Int32) → (Nat → Int32) → (Nat → Int32) → Prop) (d_signs : (Nat → Int32)) (d_size : Int32) : Nat → Int32 → Int32 → (Nat → Int32) → (Nat → Int32) → (Nat → Int32) → (Nat → Int32) → (Nat → Int32) → Prop
  | 0, _, _, _, _, _, _, _ => False
  | n + 1, v2, q_passages, q_from, q_to, q_width, q_length, q_shut =>
    ((d_size ≤ (v2 + 3) → K q_passages q_from q_to q_width q_length q_shut) ∧ (¬ d_size ≤ (v2 + 3) → (vp_in v2 40 ∧ (vp_in (v2 + 1) 40 ∧ (vp_in (v2 + 2) 40 ∧ (vp_in (v2 + 3) 40 ∧ (vc_X2_addPassage ((d_signs v2.toNatClampNeg) - 97) ((d_signs ((v2 + 1)).toNatClampNeg) - 97) ((d_signs ((v2 + 2)).toNatClampNeg) - 48) ((d_signs ((v2 + 3)).toNatClampNeg) - 48) q_passages q_from q_to q_width q_length q_shut (fun (u_5 : Int32 × (Nat → Int32) × (Nat → Int32) × (Nat → Int32) × (Nat → Int32) × (Nat → Int32)) => (∀ x2_6 : Int32, x2_6 = v2 + 4 → vc_X1_moveInto_L2 K d_signs d_size n x2_6 u_5.1 u_5.2.1 u_5.2.2.1 u_5.2.2.2.1 u_5.2.2.2.2.1 u_5.2.2.2.2.2)))))))))

set_option maxHeartbeats 4000000 in
set_option maxRecDepth 100000 in
theorem w_X1_moveInto_L2 {p : Program} {l : Launch} {e : Env} {s : State} {m : MethodId} {args : Array Value} {below : List Frame} {meth : Method} {c : Code} {D : va_G} {cI cZ : ClassId} {A : Nat → Prop} {Q : State → Prop} (dh d0 qh q0 q1 q4 q5 q6 q7 q8 : Nat) (d_signs : (Nat → Int32)) (d_size : Int32) (q_people : (Nat → Int32)) (q_area : (Nat → Int32)) (q_safeRooms : Int32) (C : lw_Cx D cI cZ p s m args meth c cX1_moveInto 3 none RX1 A) (K : Int32 → (Nat → Int32) → (Nat → Int32) → (Nat → Int32) → (Nat → Int32) → (Nat → Int32) → Prop) (hKx : ∀ (k_q_passages : Int32) (k_q_from : (Nat → Int32)) (k_q_to : (Nat → Int32)) (k_q_width : (Nat → Int32)) (k_q_length : (Nat → Int32)) (k_q_shut : (Nat → Int32)) (H : Heap) (locs : List Loc) (ls : Array Slot), K k_q_passages k_q_from k_q_to k_q_width k_q_length k_q_shut → va_P D vwCl [(dh, .inr (1, [.ref d0, .int d_size])), (d0, .inl (cI, 40, .inl d_signs)), (qh, .inr (2, [.ref q0, .ref q1, .int q_safeRooms, .int k_q_passages, .ref q4, .ref q5, .ref q6, .ref q7, .ref q8])), (q0, .inl (cI, 6, .inl q_people)), (q1, .inl (cI, 6, .inl q_area)), (q4, .inl (cI, 10, .inl k_q_from)), (q5, .inl (cI, 10, .inl k_q_to)), (q6, .inl (cI, 10, .inl k_q_width)), (q7, .inl (cI, 10, .inl k_q_length)), (q8, .inl (cI, 10, .inl k_q_shut))] H → va_D A [(dh, .inr (1, [.ref d0, .int d_size])), (d0, .inl (cI, 40, .inl d_signs)), (qh, .inr (2, [.ref q0, .ref q1, .int q_safeRooms, .int k_q_passages, .ref q4, .ref q5, .ref q6, .ref q7, .ref q8])), (q0, .inl (cI, 6, .inl q_people)), (q1, .inl (cI, 6, .inl q_area)), (q4, .inl (cI, 10, .inl k_q_from)), (q5, .inl (cI, 10, .inl k_q_to)), (q6, .inl (cI, 10, .inl k_q_width)), (q7, .inl (cI, 10, .inl k_q_length)), (q8, .inl (cI, 10, .inl k_q_shut))] → va_S A s.heap H locs → lv_has ls 3 [(0, .ref dh)] → W p l e ({ frames := 1, cells := 0, slots := 0, locals := 24 } : Room) s m args below meth c H locs 0 0 Q (F0 m 64 ls [])) :
    ∀ (n : Nat) (v2 : Int32) (q_passages : Int32) (q_from : (Nat → Int32)) (q_to : (Nat → Int32)) (q_width : (Nat → Int32)) (q_length : (Nat → Int32)) (q_shut : (Nat → Int32)) (H : Heap) (locs : List Loc) (ls : Array Slot), vc_X1_moveInto_L2 K d_signs d_size n v2 q_passages q_from q_to q_width q_length q_shut → va_P D vwCl [(dh, .inr (1, [.ref d0, .int d_size])), (d0, .inl (cI, 40, .inl d_signs)), (qh, .inr (2, [.ref q0, .ref q1, .int q_safeRooms, .int q_passages, .ref q4, .ref q5, .ref q6, .ref q7, .ref q8])), (q0, .inl (cI, 6, .inl q_people)), (q1, .inl (cI, 6, .inl q_area)), (q4, .inl (cI, 10, .inl q_from)), (q5, .inl (cI, 10, .inl q_to)), (q6, .inl (cI, 10, .inl q_width)), (q7, .inl (cI, 10, .inl q_length)), (q8, .inl (cI, 10, .inl q_shut))] H → va_D A [(dh, .inr (1, [.ref d0, .int d_size])), (d0, .inl (cI, 40, .inl d_signs)), (qh, .inr (2, [.ref q0, .ref q1, .int q_safeRooms, .int q_passages, .ref q4, .ref q5, .ref q6, .ref q7, .ref q8])), (q0, .inl (cI, 6, .inl q_people)), (q1, .inl (cI, 6, .inl q_area)), (q4, .inl (cI, 10, .inl q_from)), (q5, .inl (cI, 10, .inl q_to)), (q6, .inl (cI, 10, .inl q_width)), (q7, .inl (cI, 10, .inl q_length)), (q8, .inl (cI, 10, .inl q_shut))] → va_S A s.heap H locs → lv_has ls 3 [(0, .ref dh), (1, .ref qh), (2, .int v2)] → W p l e ({ frames := 1, cells := 0, slots := 0, locals := 24 } : Room) s m args below meth c H locs 0 0 Q (F0 m 2 ls []) := by
  obtain ⟨hx, hb, hr, hml, hown, hts, hlocks, hN, hK, hA⟩ := id C
  intro n
  induction n with
  | zero =>
    intro v2 q_passages q_from q_to q_width q_length q_shut H locs ls hv
    exact False.elim hv
  | succ n ih =>
    intro v2 q_passages q_from q_to q_width q_length q_shut H locs ls hv hP hD hS hl
    rw [vc_X1_moveInto_L2] at hv
    refine lv_iload_n hx hb dX1_moveInto_2 rfl (lv_at hl 2 rfl) ?_
    refine lv_iconst (v := 3) hx hb dX1_moveInto_3 (by decide) ?_
    refine lv_iadd hx hb dX1_moveInto_4 ?_
    refine lv_aload_n hx hb dX1_moveInto_5 rfl (lv_at hl 0 rfl) ?_
    refine va_get (D := D) (ci := 1) (v := .int d_size) (C := RX1) (T := TX1) (N := 2) hx hb hts iX1 hown hK hP 0 rfl rfl 1 (by decide) (hts _ kw_158) (fun _ h9 => h9) rfl dX1_moveInto_6 ?_
    refine lv_icmp_ge (tgt := 64) hx hb dX1_moveInto_9 (by decide) (fun c9 => ?_) (fun c9 => ?_)
    · have hv := hv.1 c9
      exact hKx q_passages q_from q_to q_width q_length q_shut H locs ls hv hP hD hS (lv_sub hl [0] rfl)
    · have hv := hv.2 c9
      refine lv_aload_n hx hb dX1_moveInto_12 rfl (lv_at hl 1 rfl) ?_
      refine lv_aload_n hx hb dX1_moveInto_13 rfl (lv_at hl 0 rfl) ?_
      refine va_get (D := D) (ci := 1) (v := .ref d0) (C := RX1) (T := TX1) (N := 2) hx hb hts iX1 hown hK hP 0 rfl rfl 0 (by decide) (hts _ kw_157) (fun _ h9 => h9) rfl dX1_moveInto_14 ?_
      refine lv_iload_n hx hb dX1_moveInto_17 rfl (lv_at hl 2 rfl) ?_
      obtain ⟨hi_1, hv⟩ := hv
      refine va_iald hx hb hK hP 1 0 rfl rfl hi_1 dX1_moveInto_18 ?_
      refine lv_bipush (v := 97) hx hb dX1_moveInto_19 (by decide) ?_
      refine lv_isub hx hb dX1_moveInto_21 ?_
      refine lv_aload_n hx hb dX1_moveInto_22 rfl (lv_at hl 0 rfl) ?_
      refine va_get (D := D) (ci := 1) (v := .ref d0) (C := RX1) (T := TX1) (N := 2) hx hb hts iX1 hown hK hP 0 rfl rfl 0 (by decide) (hts _ kw_157) (fun _ h9 => h9) rfl dX1_moveInto_23 ?_
      refine lv_iload_n hx hb dX1_moveInto_26 rfl (lv_at hl 2 rfl) ?_
      refine lv_iconst (v := 1) hx hb dX1_moveInto_27 (by decide) ?_
      refine lv_iadd hx hb dX1_moveInto_28 ?_
      obtain ⟨hi_2, hv⟩ := hv
      refine va_iald hx hb hK hP 1 0 rfl rfl hi_2 dX1_moveInto_29 ?_
      refine lv_bipush (v := 97) hx hb dX1_moveInto_30 (by decide) ?_
      refine lv_isub hx hb dX1_moveInto_32 ?_
      refine lv_aload_n hx hb dX1_moveInto_33 rfl (lv_at hl 0 rfl) ?_
      refine va_get (D := D) (ci := 1) (v := .ref d0) (C := RX1) (T := TX1) (N := 2) hx hb hts iX1 hown hK hP 0 rfl rfl 0 (by decide) (hts _ kw_157) (fun _ h9 => h9) rfl dX1_moveInto_34 ?_
      refine lv_iload_n hx hb dX1_moveInto_37 rfl (lv_at hl 2 rfl) ?_
      refine lv_iconst (v := 2) hx hb dX1_moveInto_38 (by decide) ?_
      refine lv_iadd hx hb dX1_moveInto_39 ?_
      obtain ⟨hi_3, hv⟩ := hv
      refine va_iald hx hb hK hP 1 0 rfl rfl hi_3 dX1_moveInto_40 ?_
      refine lv_bipush (v := 48) hx hb dX1_moveInto_41 (by decide) ?_
      refine lv_isub hx hb dX1_moveInto_43 ?_
      refine lv_aload_n hx hb dX1_moveInto_44 rfl (lv_at hl 0 rfl) ?_
      refine va_get (D := D) (ci := 1) (v := .ref d0) (C := RX1) (T := TX1) (N := 2) hx hb hts iX1 hown hK hP 0 rfl rfl 0 (by decide) (hts _ kw_157) (fun _ h9 => h9) rfl dX1_moveInto_45 ?_
      refine lv_iload_n hx hb dX1_moveInto_48 rfl (lv_at hl 2 rfl) ?_
      refine lv_iconst (v := 3) hx hb dX1_moveInto_49 (by decide) ?_
      refine lv_iadd hx hb dX1_moveInto_50 ?_
      obtain ⟨hi_4, hv⟩ := hv
      refine va_iald hx hb hK hP 1 0 rfl rfl hi_4 dX1_moveInto_51 ?_
      refine lv_bipush (v := 48) hx hb dX1_moveInto_52 (by decide) ?_
      refine lv_isub hx hb dX1_moveInto_54 ?_
      refine lw_callv (wr := [(dh, .inr (1, [.ref d0, .int d_size])), (d0, .inl (cI, 40, .inl d_signs))]) C (lw_runVN (own := RX1) (n := 4) C hP hD [2, 3, 4, 5, 6, 7, 8, 9] rfl rfl 2 rfl rfl rfl (m_X2_addPassage l D cI cZ qh q0 q1 q4 q5 q6 q7 q8 ((d_signs v2.toNatClampNeg) - 97) ((d_signs ((v2 + 1)).toNatClampNeg) - 97) ((d_signs ((v2 + 2)).toNatClampNeg) - 48) ((d_signs ((v2 + 3)).toNatClampNeg) - 48) q_people q_area q_safeRooms q_passages q_from q_to q_width q_length q_shut H.size hv) kw_295 kw_346 kw_294 kw_0 kw_69 (by decide +kernel) rfl ⟨rfl, rfl, Nat.le_of_ble_eq_true rfl, Nat.le_of_ble_eq_true rfl, Nat.le_of_ble_eq_true rfl, Nat.le_of_ble_eq_true rfl⟩ hl.1 rfl (Nat.le_of_ble_eq_true rfl) dX1_moveInto_55) hP hD hS [2, 3, 4, 5, 6, 7, 8, 9] [0, 1] rfl rfl rfl (by decide +kernel) (fun u_5 H locs hv hP hD hS => ?_)
      have hP : va_P D vwCl [(dh, .inr (1, [.ref d0, .int d_size])), (d0, .inl (cI, 40, .inl d_signs)), (qh, .inr (2, [.ref q0, .ref q1, .int q_safeRooms, .int u_5.1, .ref q4, .ref q5, .ref q6, .ref q7, .ref q8])), (q0, .inl (cI, 6, .inl q_people)), (q1, .inl (cI, 6, .inl q_area)), (q4, .inl (cI, 10, .inl u_5.2.1)), (q5, .inl (cI, 10, .inl u_5.2.2.1)), (q6, .inl (cI, 10, .inl u_5.2.2.2.1)), (q7, .inl (cI, 10, .inl u_5.2.2.2.2.1)), (q8, .inl (cI, 10, .inl u_5.2.2.2.2.2))] H := hP.sub [0, 1, 2, 3, 4, 5, 6, 7, 8, 9] rfl
      have hD : va_D A [(dh, .inr (1, [.ref d0, .int d_size])), (d0, .inl (cI, 40, .inl d_signs)), (qh, .inr (2, [.ref q0, .ref q1, .int q_safeRooms, .int u_5.1, .ref q4, .ref q5, .ref q6, .ref q7, .ref q8])), (q0, .inl (cI, 6, .inl q_people)), (q1, .inl (cI, 6, .inl q_area)), (q4, .inl (cI, 10, .inl u_5.2.1)), (q5, .inl (cI, 10, .inl u_5.2.2.1)), (q6, .inl (cI, 10, .inl u_5.2.2.2.1)), (q7, .inl (cI, 10, .inl u_5.2.2.2.2.1)), (q8, .inl (cI, 10, .inl u_5.2.2.2.2.2))] := hD.sub [0, 1, 2, 3, 4, 5, 6, 7, 8, 9] rfl rfl
      obtain ⟨x2_6, ex2_6⟩ : ∃ y : Int32, y = v2 + 4 := ⟨_, rfl⟩
      have hv := hv x2_6 ex2_6
      refine lv_iinc (v := x2_6) (lv' := [(2, .int x2_6), (0, .ref dh), (1, .ref qh)]) hx hb dX1_moveInto_58 hl (k := 2) rfl (by rw [ex2_6]; rfl) (by decide) rfl (fun ls hl => ?_)
      refine lv_goto (tgt := 2) hx hb dX1_moveInto_61 (by decide) ?_
      exact ih x2_6 u_5.1 u_5.2.1 u_5.2.2.1 u_5.2.2.2.1 u_5.2.2.2.2.1 u_5.2.2.2.2.2 H locs ls hv hP hD hS (lv_sub hl [1, 2, 0] rfl)

def vc_X1_moveInto (d_signs : (Nat → Int32)) (d_size : Int32) (q_passages : Int32) (q_from : (Nat → Int32)) (q_to : (Nat → Int32)) (q_width : (Nat → Int32)) (q_length : (Nat → Int32)) (q_shut : (Nat → Int32)) (post : (Int32 × Int32 × (Nat → Int32) × (Nat → Int32) × (Nat → Int32) × (Nat → Int32) × (Nat → Int32)) → Prop) : Prop :=
  (∃ n_13, vc_X1_moveInto_L2 (fun q_passages_7 q_from_8 q_to_9 q_width_10 q_length_11 q_shut_12 => post (0, q_passages_7, q_from_8, q_to_9, q_width_10, q_length_11, q_shut_12))  d_signs d_size n_13 0 q_passages q_from q_to q_width q_length q_shut)

set_option maxHeartbeats 4000000 in
set_option maxRecDepth 100000 in
theorem m_X1_moveInto (l : Launch) (D : va_G) (cI cZ : ClassId) (dh d0 qh q0 q1 q4 q5 q6 q7 q8 : Nat) (d_signs : (Nat → Int32)) (d_size : Int32) (q_people : (Nat → Int32)) (q_area : (Nat → Int32)) (q_safeRooms : Int32) (q_passages : Int32) (q_from : (Nat → Int32)) (q_to : (Nat → Int32)) (q_width : (Nat → Int32)) (q_length : (Nat → Int32)) (q_shut : (Nat → Int32)) (sz : Nat) {post : (Int32 × Int32 × (Nat → Int32) × (Nat → Int32) × (Nat → Int32) × (Nat → Int32) × (Nat → Int32)) → Prop} (hv : vc_X1_moveInto d_signs d_size q_passages q_from q_to q_width q_length q_shut post) :
    Met l yX1_moveInto (Cond.code yX1_moveInto cX1_moveInto 3 none :: lw_good) ({ frames := 1, cells := 0, slots := 0, locals := 24 } : Room) (va_Pc [.ref dh, .ref qh] (lw_B D cI cZ [(dh, .inr (1, [.ref d0, .int d_size])), (d0, .inl (cI, 40, .inl d_signs)), (qh, .inr (2, [.ref q0, .ref q1, .int q_safeRooms, .int q_passages, .ref q4, .ref q5, .ref q6, .ref q7, .ref q8])), (q0, .inl (cI, 6, .inl q_people)), (q1, .inl (cI, 6, .inl q_area)), (q4, .inl (cI, 10, .inl q_from)), (q5, .inl (cI, 10, .inl q_to)), (q6, .inl (cI, 10, .inl q_width)), (q7, .inl (cI, 10, .inl q_length)), (q8, .inl (cI, 10, .inl q_shut))] sz)) (lw_Qv D cI cZ (va_A [(dh, .inr (1, [.ref d0, .int d_size])), (d0, .inl (cI, 40, .inl d_signs)), (qh, .inr (2, [.ref q0, .ref q1, .int q_safeRooms, .int q_passages, .ref q4, .ref q5, .ref q6, .ref q7, .ref q8])), (q0, .inl (cI, 6, .inl q_people)), (q1, .inl (cI, 6, .inl q_area)), (q4, .inl (cI, 10, .inl q_from)), (q5, .inl (cI, 10, .inl q_to)), (q6, .inl (cI, 10, .inl q_width)), (q7, .inl (cI, 10, .inl q_length)), (q8, .inl (cI, 10, .inl q_shut))] sz) (fun u : Int32 × Int32 × (Nat → Int32) × (Nat → Int32) × (Nat → Int32) × (Nat → Int32) × (Nat → Int32) => [(dh, .inr (1, [.ref d0, .int u.1])), (d0, .inl (cI, 40, .inl d_signs)), (qh, .inr (2, [.ref q0, .ref q1, .int q_safeRooms, .int u.2.1, .ref q4, .ref q5, .ref q6, .ref q7, .ref q8])), (q0, .inl (cI, 6, .inl q_people)), (q1, .inl (cI, 6, .inl q_area)), (q4, .inl (cI, 10, .inl u.2.2.1)), (q5, .inl (cI, 10, .inl u.2.2.2.1)), (q6, .inl (cI, 10, .inl u.2.2.2.2.1)), (q7, .inl (cI, 10, .inl u.2.2.2.2.2.1)), (q8, .inl (cI, 10, .inl u.2.2.2.2.2.2))]) post) 0 0 (va_A [(dh, .inr (1, [.ref d0, .int d_size])), (d0, .inl (cI, 40, .inl d_signs)), (qh, .inr (2, [.ref q0, .ref q1, .int q_safeRooms, .int q_passages, .ref q4, .ref q5, .ref q6, .ref q7, .ref q8])), (q0, .inl (cI, 6, .inl q_people)), (q1, .inl (cI, 6, .inl q_area)), (q4, .inl (cI, 10, .inl q_from)), (q5, .inl (cI, 10, .inl q_to)), (q6, .inl (cI, 10, .inl q_width)), (q7, .inl (cI, 10, .inl q_length)), (q8, .inl (cI, 10, .inl q_shut))] sz) := by
  refine lw_met (Q := fun A => lw_Qv D cI cZ A (fun u : Int32 × Int32 × (Nat → Int32) × (Nat → Int32) × (Nat → Int32) × (Nat → Int32) × (Nat → Int32) => [(dh, .inr (1, [.ref d0, .int u.1])), (d0, .inl (cI, 40, .inl d_signs)), (qh, .inr (2, [.ref q0, .ref q1, .int q_safeRooms, .int u.2.1, .ref q4, .ref q5, .ref q6, .ref q7, .ref q8])), (q0, .inl (cI, 6, .inl q_people)), (q1, .inl (cI, 6, .inl q_area)), (q4, .inl (cI, 10, .inl u.2.2.1)), (q5, .inl (cI, 10, .inl u.2.2.2.1)), (q6, .inl (cI, 10, .inl u.2.2.2.2.1)), (q7, .inl (cI, 10, .inl u.2.2.2.2.2.1)), (q8, .inl (cI, 10, .inl u.2.2.2.2.2.2))]) post) (by decide) (Nat.le_of_ble_eq_true rfl) ?_
  intro p e s m below meth c A C hnm hP hD hS ls hl
  have C : lw_Cx D cI cZ p s m _ meth c cX1_moveInto 3 none RX1 A := C
  obtain ⟨hx, hb, hr, hml, hown, hts, hlocks, hN, hK, hA⟩ := id C
  have hl : lv_has ls 3 [(0, .ref dh), (1, .ref qh)] := hl
  obtain ⟨H, hH⟩ : ∃ H, H = s.heap := ⟨_, rfl⟩
  rw [← hH] at hP
  have hS : va_S A s.heap H [] := by rw [hH]; exact hS
  suffices hgoal : W p l e ({ frames := 1, cells := 0, slots := 0, locals := 24 } : Room) s m #[.ref dh, .ref qh] below meth c H [] 0 0 (MQ below (lw_Qv D cI cZ A (fun u : Int32 × Int32 × (Nat → Int32) × (Nat → Int32) × (Nat → Int32) × (Nat → Int32) × (Nat → Int32) => [(dh, .inr (1, [.ref d0, .int u.1])), (d0, .inl (cI, 40, .inl d_signs)), (qh, .inr (2, [.ref q0, .ref q1, .int q_safeRooms, .int u.2.1, .ref q4, .ref q5, .ref q6, .ref q7, .ref q8])), (q0, .inl (cI, 6, .inl q_people)), (q1, .inl (cI, 6, .inl q_area)), (q4, .inl (cI, 10, .inl u.2.2.1)), (q5, .inl (cI, 10, .inl u.2.2.2.1)), (q6, .inl (cI, 10, .inl u.2.2.2.2.1)), (q7, .inl (cI, 10, .inl u.2.2.2.2.2.1)), (q8, .inl (cI, 10, .inl u.2.2.2.2.2.2))]) post) #[.ref dh, .ref qh] s 0 0 A) (F0 m 0 ls []) by rw [hH] at hgoal; exact hgoal
  obtain ⟨locs, hlo⟩ : ∃ locs : List Loc, locs = [] := ⟨_, rfl⟩
  rw [← hlo] at hS ⊢
  rw [vc_X1_moveInto] at hv
  refine lv_iconst (v := 0) hx hb dX1_moveInto_0 (by decide) ?_
  refine lv_istore_n (lv' := [(2, .int 0), (0, .ref dh), (1, .ref qh)]) hx hb dX1_moveInto_1 rfl hl (by decide) rfl (fun ls hl => ?_)
  obtain ⟨n_13, hv⟩ := hv
  refine w_X1_moveInto_L2 dh d0 qh q0 q1 q4 q5 q6 q7 q8 d_signs d_size q_people q_area q_safeRooms C _ (fun q_passages_7 q_from_8 q_to_9 q_width_10 q_length_11 q_shut_12 H locs ls hv hP hD hS hl => ?_) n_13 0 q_passages q_from q_to q_width q_length q_shut H locs ls hv hP hD hS (lv_sub hl [1, 2, 0] rfl)
  refine lv_aload_n hx hb dX1_moveInto_64 rfl (lv_at hl 0 rfl) ?_
  refine lv_iconst (v := 0) hx hb dX1_moveInto_65 (by decide) ?_
  refine va_put (D := D) (ci := 1) (v := .int 0) (ty := .int) (C := RX1) (T := TX1) (N := 2) hx hb hts iX1 tyX1 tyX1_ok nmX1 hown hK hP hD hS 0 rfl rfl 1 (by decide) (hts _ kw_158) (fun _ h9 => h9) rfl (by decide +kernel) rfl rfl (Nat.le_of_ble_eq_true rfl) dX1_moveInto_66 (fun H locs hP hD hS => ?_)
  have hP : va_P D vwCl [(dh, .inr (1, [.ref d0, .int 0])), (d0, .inl (cI, 40, .inl d_signs)), (qh, .inr (2, [.ref q0, .ref q1, .int q_safeRooms, .int q_passages_7, .ref q4, .ref q5, .ref q6, .ref q7, .ref q8])), (q0, .inl (cI, 6, .inl q_people)), (q1, .inl (cI, 6, .inl q_area)), (q4, .inl (cI, 10, .inl q_from_8)), (q5, .inl (cI, 10, .inl q_to_9)), (q6, .inl (cI, 10, .inl q_width_10)), (q7, .inl (cI, 10, .inl q_length_11)), (q8, .inl (cI, 10, .inl q_shut_12))] H := hP
  have hD : va_D A [(dh, .inr (1, [.ref d0, .int 0])), (d0, .inl (cI, 40, .inl d_signs)), (qh, .inr (2, [.ref q0, .ref q1, .int q_safeRooms, .int q_passages_7, .ref q4, .ref q5, .ref q6, .ref q7, .ref q8])), (q0, .inl (cI, 6, .inl q_people)), (q1, .inl (cI, 6, .inl q_area)), (q4, .inl (cI, 10, .inl q_from_8)), (q5, .inl (cI, 10, .inl q_to_9)), (q6, .inl (cI, 10, .inl q_width_10)), (q7, .inl (cI, 10, .inl q_length_11)), (q8, .inl (cI, 10, .inl q_shut_12))] := hD
  exact lw_vret C (0, q_passages_7, q_from_8, q_to_9, q_width_10, q_length_11, q_shut_12) hv hP hD hS dX1_moveInto_69
