def vc_X3_begin (t_here : (Nat → Int32)) (t_arriving : (Nat → Int32)) (q_people : (Nat → Int32)) (post : ((Nat → Int32) × (Nat → Int32)) → Prop) : Prop :=
  post ((va_cpy q_people t_here 0 0 6), (lw_fil 30 0 t_arriving))

set_option maxHeartbeats 4000000 in
set_option maxRecDepth 100000 in
theorem m_X3_begin (l : Launch) (D : va_G) (cI cZ : ClassId) (th t0 t1 t2 t3 qh q0 q1 q4 q5 q6 q7 q8 : Nat) (t_here : (Nat → Int32)) (t_arriving : (Nat → Int32)) (t_distance : (Nat → Int32)) (t_firstPassage : (Nat → Int32)) (q_people : (Nat → Int32)) (q_area : (Nat → Int32)) (q_safeRooms : Int32) (q_passages : Int32) (q_from : (Nat → Int32)) (q_to : (Nat → Int32)) (q_width : (Nat → Int32)) (q_length : (Nat → Int32)) (q_shut : (Nat → Int32)) (sz : Nat) {post : ((Nat → Int32) × (Nat → Int32)) → Prop} (hv : vc_X3_begin t_here t_arriving q_people post) :
    Met l yX3_begin (Cond.code yX3_begin cX3_begin 2 none :: lw_good) ({ frames := 1, cells := 0, slots := 0, locals := 23 } : Room) (va_Pc [.ref th, .ref qh] (lw_B D cI cZ [(th, .inr (3, [.ref t0, .ref t1, .ref t2, .ref t3])), (t0, .inl (cI, 6, .inl t_here)), (t1, .inl (cI, 30, .inl t_arriving)), (t2, .inl (cI, 6, .inl t_distance)), (t3, .inl (cI, 6, .inl t_firstPassage)), (qh, .inr (2, [.ref q0, .ref q1, .int q_safeRooms, .int q_passages, .ref q4, .ref q5, .ref q6, .ref q7, .ref q8])), (q0, .inl (cI, 6, .inl q_people)), (q1, .inl (cI, 6, .inl q_area)), (q4, .inl (cI, 10, .inl q_from)), (q5, .inl (cI, 10, .inl q_to)), (q6, .inl (cI, 10, .inl q_width)), (q7, .inl (cI, 10, .inl q_length)), (q8, .inl (cI, 10, .inl q_shut))] sz)) (lw_Qv D cI cZ (va_A [(th, .inr (3, [.ref t0, .ref t1, .ref t2, .ref t3])), (t0, .inl (cI, 6, .inl t_here)), (t1, .inl (cI, 30, .inl t_arriving)), (t2, .inl (cI, 6, .inl t_distance)), (t3, .inl (cI, 6, .inl t_firstPassage)), (qh, .inr (2, [.ref q0, .ref q1, .int q_safeRooms, .int q_passages, .ref q4, .ref q5, .ref q6, .ref q7, .ref q8])), (q0, .inl (cI, 6, .inl q_people)), (q1, .inl (cI, 6, .inl q_area)), (q4, .inl (cI, 10, .inl q_from)), (q5, .inl (cI, 10, .inl q_to)), (q6, .inl (cI, 10, .inl q_width)), (q7, .inl (cI, 10, .inl q_length)), (q8, .inl (cI, 10, .inl q_shut))] sz) (fun u : (Nat → Int32) × (Nat → Int32) => [(th, .inr (3, [.ref t0, .ref t1, .ref t2, .ref t3])), (t0, .inl (cI, 6, .inl u.1)), (t1, .inl (cI, 30, .inl u.2)), (t2, .inl (cI, 6, .inl t_distance)), (t3, .inl (cI, 6, .inl t_firstPassage)), (qh, .inr (2, [.ref q0, .ref q1, .int q_safeRooms, .int q_passages, .ref q4, .ref q5, .ref q6, .ref q7, .ref q8])), (q0, .inl (cI, 6, .inl q_people)), (q1, .inl (cI, 6, .inl q_area)), (q4, .inl (cI, 10, .inl q_from)), (q5, .inl (cI, 10, .inl q_to)), (q6, .inl (cI, 10, .inl q_width)), (q7, .inl (cI, 10, .inl q_length)), (q8, .inl (cI, 10, .inl q_shut))]) post) 0 0 (va_A [(th, .inr (3, [.ref t0, .ref t1, .ref t2, .ref t3])), (t0, .inl (cI, 6, .inl t_here)), (t1, .inl (cI, 30, .inl t_arriving)), (t2, .inl (cI, 6, .inl t_distance)), (t3, .inl (cI, 6, .inl t_firstPassage)), (qh, .inr (2, [.ref q0, .ref q1, .int q_safeRooms, .int q_passages, .ref q4, .ref q5, .ref q6, .ref q7, .ref q8])), (q0, .inl (cI, 6, .inl q_people)), (q1, .inl (cI, 6, .inl q_area)), (q4, .inl (cI, 10, .inl q_from)), (q5, .inl (cI, 10, .inl q_to)), (q6, .inl (cI, 10, .inl q_width)), (q7, .inl (cI, 10, .inl q_length)), (q8, .inl (cI, 10, .inl q_shut))] sz) := by
  refine lw_met (Q := fun A => lw_Qv D cI cZ A (fun u : (Nat → Int32) × (Nat → Int32) => [(th, .inr (3, [.ref t0, .ref t1, .ref t2, .ref t3])), (t0, .inl (cI, 6, .inl u.1)), (t1, .inl (cI, 30, .inl u.2)), (t2, .inl (cI, 6, .inl t_distance)), (t3, .inl (cI, 6, .inl t_firstPassage)), (qh, .inr (2, [.ref q0, .ref q1, .int q_safeRooms, .int q_passages, .ref q4, .ref q5, .ref q6, .ref q7, .ref q8])), (q0, .inl (cI, 6, .inl q_people)), (q1, .inl (cI, 6, .inl q_area)), (q4, .inl (cI, 10, .inl q_from)), (q5, .inl (cI, 10, .inl q_to)), (q6, .inl (cI, 10, .inl q_width)), (q7, .inl (cI, 10, .inl q_length)), (q8, .inl (cI, 10, .inl q_shut))]) post) (by decide) (Nat.le_of_ble_eq_true rfl) ?_
  intro p e s m below meth c A C hnm hP hD hS ls hl
  have C : lw_Cx D cI cZ p s m _ meth c cX3_begin 2 none RX3 A := C
  obtain ⟨hx, hb, hr, hml, hown, hts, hlocks, hN, hK, hA⟩ := id C
  have hl : lv_has ls 2 [(0, .ref th), (1, .ref qh)] := hl
  obtain ⟨H, hH⟩ : ∃ H, H = s.heap := ⟨_, rfl⟩
  rw [← hH] at hP
  have hS : va_S A s.heap H [] := by rw [hH]; exact hS
  suffices hgoal : W p l e ({ frames := 1, cells := 0, slots := 0, locals := 23 } : Room) s m #[.ref th, .ref qh] below meth c H [] 0 0 (MQ below (lw_Qv D cI cZ A (fun u : (Nat → Int32) × (Nat → Int32) => [(th, .inr (3, [.ref t0, .ref t1, .ref t2, .ref t3])), (t0, .inl (cI, 6, .inl u.1)), (t1, .inl (cI, 30, .inl u.2)), (t2, .inl (cI, 6, .inl t_distance)), (t3, .inl (cI, 6, .inl t_firstPassage)), (qh, .inr (2, [.ref q0, .ref q1, .int q_safeRooms, .int q_passages, .ref q4, .ref q5, .ref q6, .ref q7, .ref q8])), (q0, .inl (cI, 6, .inl q_people)), (q1, .inl (cI, 6, .inl q_area)), (q4, .inl (cI, 10, .inl q_from)), (q5, .inl (cI, 10, .inl q_to)), (q6, .inl (cI, 10, .inl q_width)), (q7, .inl (cI, 10, .inl q_length)), (q8, .inl (cI, 10, .inl q_shut))]) post) #[.ref th, .ref qh] s 0 0 A) (F0 m 0 ls []) by rw [hH] at hgoal; exact hgoal
  obtain ⟨locs, hlo⟩ : ∃ locs : List Loc, locs = [] := ⟨_, rfl⟩
  rw [← hlo] at hS ⊢
  rw [vc_X3_begin] at hv
  refine lv_aload_n hx hb dX3_begin_0 rfl (lv_at hl 1 rfl) ?_
  refine va_getN (D := D) (ci := 2) (v := .ref q0) (C := RX2) (T := TX2) (N := 9) hx hb hts iX2 hown hK hP 5 rfl rfl 0 (by decide) (va_Nw.use rfl (hN _ kw_98)) (fun _ h9 => h9) rfl dX3_begin_1 ?_
  refine lv_iconst (v := 0) hx hb dX3_begin_4 (by decide) ?_
  refine lv_aload_n hx hb dX3_begin_5 rfl (lv_at hl 0 rfl) ?_
  refine va_get (D := D) (ci := 3) (v := .ref t0) (C := RX3) (T := TX3) (N := 4) hx hb hts iX3 hown hK hP 0 rfl rfl 0 (by decide) (hts _ kw_230) (fun _ h9 => h9) rfl dX3_begin_6 ?_
  refine lv_iconst (v := 0) hx hb dX3_begin_9 (by decide) ?_
  refine lv_bipush (v := 6) hx hb dX3_begin_10 (by decide) ?_
  refine va_copyi (sp := 0) (dp := 0) (n := 6) hx hb (hml.trans hl.1.symm) hown (hts _ kw_485) (hts _ kw_386) (hts _ kw_385) (hts _ kw_78) hK hP hD hS 6 1 0 0 rfl rfl rfl rfl rfl (by decide) (by decide) (by decide) (by decide) (by decide) (fun _ _ => rfl) (Nat.le_of_ble_eq_true rfl) (Nat.le_of_ble_eq_true rfl) dX3_begin_12 (fun H locs hP hD hS => ?_)
  have hP : va_P D vwCl [(th, .inr (3, [.ref t0, .ref t1, .ref t2, .ref t3])), (t0, .inl (cI, 6, .inl (va_cpy q_people t_here 0 0 6))), (t1, .inl (cI, 30, .inl t_arriving)), (t2, .inl (cI, 6, .inl t_distance)), (t3, .inl (cI, 6, .inl t_firstPassage)), (qh, .inr (2, [.ref q0, .ref q1, .int q_safeRooms, .int q_passages, .ref q4, .ref q5, .ref q6, .ref q7, .ref q8])), (q0, .inl (cI, 6, .inl q_people)), (q1, .inl (cI, 6, .inl q_area)), (q4, .inl (cI, 10, .inl q_from)), (q5, .inl (cI, 10, .inl q_to)), (q6, .inl (cI, 10, .inl q_width)), (q7, .inl (cI, 10, .inl q_length)), (q8, .inl (cI, 10, .inl q_shut))] H := hP
  have hD : va_D A [(th, .inr (3, [.ref t0, .ref t1, .ref t2, .ref t3])), (t0, .inl (cI, 6, .inl (va_cpy q_people t_here 0 0 6))), (t1, .inl (cI, 30, .inl t_arriving)), (t2, .inl (cI, 6, .inl t_distance)), (t3, .inl (cI, 6, .inl t_firstPassage)), (qh, .inr (2, [.ref q0, .ref q1, .int q_safeRooms, .int q_passages, .ref q4, .ref q5, .ref q6, .ref q7, .ref q8])), (q0, .inl (cI, 6, .inl q_people)), (q1, .inl (cI, 6, .inl q_area)), (q4, .inl (cI, 10, .inl q_from)), (q5, .inl (cI, 10, .inl q_to)), (q6, .inl (cI, 10, .inl q_width)), (q7, .inl (cI, 10, .inl q_length)), (q8, .inl (cI, 10, .inl q_shut))] := hD
  refine lv_aload_n hx hb dX3_begin_15 rfl (lv_at hl 0 rfl) ?_
  refine va_get (D := D) (ci := 3) (v := .ref t1) (C := RX3) (T := TX3) (N := 4) hx hb hts iX3 hown hK hP 0 rfl rfl 1 (by decide) (hts _ kw_231) (fun _ h9 => h9) rfl dX3_begin_16 ?_
  refine lv_iconst (v := 0) hx hb dX3_begin_19 (by decide) ?_
  refine lw_callv (wr := [(th, .inr (3, [.ref t0, .ref t1, .ref t2, .ref t3])), (t0, .inl (cI, 6, .inl (va_cpy q_people t_here 0 0 6))), (t2, .inl (cI, 6, .inl t_distance)), (t3, .inl (cI, 6, .inl t_firstPassage)), (qh, .inr (2, [.ref q0, .ref q1, .int q_safeRooms, .int q_passages, .ref q4, .ref q5, .ref q6, .ref q7, .ref q8])), (q0, .inl (cI, 6, .inl q_people)), (q1, .inl (cI, 6, .inl q_area)), (q4, .inl (cI, 10, .inl q_from)), (q5, .inl (cI, 10, .inl q_to)), (q6, .inl (cI, 10, .inl q_width)), (q7, .inl (cI, 10, .inl q_length)), (q8, .inl (cI, 10, .inl q_shut))]) C (lw_runS (own := RX3) (n := 2) C hP hD [2] rfl rfl (m_fill l D cI cZ t1 t_arriving 0 H.size 30 (by decide)) kw_96 kw_486 kw_95 kw_70 (by decide +kernel) rfl ⟨rfl, rfl, Nat.le_of_ble_eq_true rfl, Nat.le_of_ble_eq_true rfl, Nat.le_of_ble_eq_true rfl, Nat.le_of_ble_eq_true rfl⟩ hl.1 rfl (Nat.le_of_ble_eq_true rfl) dX3_begin_20) hP hD hS [2] [0, 1, 3, 4, 5, 6, 7, 8, 9, 10, 11, 12] rfl rfl rfl (by decide +kernel) (fun u H locs hu hP hD hS => ?_)
  subst hu
  have hP : va_P D vwCl [(th, .inr (3, [.ref t0, .ref t1, .ref t2, .ref t3])), (t0, .inl (cI, 6, .inl (va_cpy q_people t_here 0 0 6))), (t1, .inl (cI, 30, .inl (lw_fil 30 0 t_arriving))), (t2, .inl (cI, 6, .inl t_distance)), (t3, .inl (cI, 6, .inl t_firstPassage)), (qh, .inr (2, [.ref q0, .ref q1, .int q_safeRooms, .int q_passages, .ref q4, .ref q5, .ref q6, .ref q7, .ref q8])), (q0, .inl (cI, 6, .inl q_people)), (q1, .inl (cI, 6, .inl q_area)), (q4, .inl (cI, 10, .inl q_from)), (q5, .inl (cI, 10, .inl q_to)), (q6, .inl (cI, 10, .inl q_width)), (q7, .inl (cI, 10, .inl q_length)), (q8, .inl (cI, 10, .inl q_shut))] H := hP.sub [0, 1, 12, 2, 3, 4, 5, 6, 7, 8, 9, 10, 11] rfl
  have hD : va_D A [(th, .inr (3, [.ref t0, .ref t1, .ref t2, .ref t3])), (t0, .inl (cI, 6, .inl (va_cpy q_people t_here 0 0 6))), (t1, .inl (cI, 30, .inl (lw_fil 30 0 t_arriving))), (t2, .inl (cI, 6, .inl t_distance)), (t3, .inl (cI, 6, .inl t_firstPassage)), (qh, .inr (2, [.ref q0, .ref q1, .int q_safeRooms, .int q_passages, .ref q4, .ref q5, .ref q6, .ref q7, .ref q8])), (q0, .inl (cI, 6, .inl q_people)), (q1, .inl (cI, 6, .inl q_area)), (q4, .inl (cI, 10, .inl q_from)), (q5, .inl (cI, 10, .inl q_to)), (q6, .inl (cI, 10, .inl q_width)), (q7, .inl (cI, 10, .inl q_length)), (q8, .inl (cI, 10, .inl q_shut))] := hD.sub [0, 1, 12, 2, 3, 4, 5, 6, 7, 8, 9, 10, 11] rfl rfl
  exact lw_vret C ((va_cpy q_people t_here 0 0 6), (lw_fil 30 0 t_arriving)) hv hP hD hS dX3_begin_23

def vc_X3_arrive_L9 (K : (Nat → Int32) → (Nat → Int32) → Prop) (b2 : Int32) : Nat → Int32 → (Nat → Int32) → (Nat → Int32) → Prop
  | 0, _, _, _ => False
  | n + 1, v3, t_here, t_arriving =>
    ((6 ≤ v3 → K t_here t_arriving) ∧ (¬ 6 ≤ v3 → (vp_in v3 6 ∧ (vp_in (b2 + v3) 30 ∧ (vp_in v3 6 ∧ (vp_in (b2 + v3) 30 ∧ (∀ x3_6 : Int32, x3_6 = v3 + 1 → vc_X3_arrive_L9 K b2 n x3_6 (upd t_here v3.toNatClampNeg ((t_here v3.toNatClampNeg) + (t_arriving ((b2 + v3)).toNatClampNeg))) (upd t_arriving ((b2 + v3)).toNatClampNeg 0))))))))

set_option maxHeartbeats 4000000 in
set_option maxRecDepth 100000 in
theorem w_X3_arrive_L9 {p : Program} {l : Launch} {e : Env} {s : State} {m : MethodId} {args : Array Value} {below : List Frame} {meth : Method} {c : Code} {D : va_G} {cI cZ : ClassId} {A : Nat → Prop} {Q : State → Prop} (th t0 t1 t2 t3 : Nat) (b2 : Int32) (t_distance : (Nat → Int32)) (t_firstPassage : (Nat → Int32)) (C : lw_Cx D cI cZ p s m args meth c cX3_arrive 4 none RX3 A) (K : (Nat → Int32) → (Nat → Int32) → Prop) (hKx : ∀ (k_t_here : (Nat → Int32)) (k_t_arriving : (Nat → Int32)) (H : Heap) (locs : List Loc) (ls : Array Slot), K k_t_here k_t_arriving → va_P D vwCl [(th, .inr (3, [.ref t0, .ref t1, .ref t2, .ref t3])), (t0, .inl (cI, 6, .inl k_t_here)), (t1, .inl (cI, 30, .inl k_t_arriving)), (t2, .inl (cI, 6, .inl t_distance)), (t3, .inl (cI, 6, .inl t_firstPassage))] H → va_D A [(th, .inr (3, [.ref t0, .ref t1, .ref t2, .ref t3])), (t0, .inl (cI, 6, .inl k_t_here)), (t1, .inl (cI, 30, .inl k_t_arriving)), (t2, .inl (cI, 6, .inl t_distance)), (t3, .inl (cI, 6, .inl t_firstPassage))] → va_S A s.heap H locs → lv_has ls 4 [] → W p l e ({ frames := 0, cells := 0, slots := 0, locals := 0 } : Room) s m args below meth c H locs 0 0 Q (F0 m 47 ls [])) :
    ∀ (n : Nat) (v3 : Int32) (t_here : (Nat → Int32)) (t_arriving : (Nat → Int32)) (H : Heap) (locs : List Loc) (ls : Array Slot), vc_X3_arrive_L9 K b2 n v3 t_here t_arriving → va_P D vwCl [(th, .inr (3, [.ref t0, .ref t1, .ref t2, .ref t3])), (t0, .inl (cI, 6, .inl t_here)), (t1, .inl (cI, 30, .inl t_arriving)), (t2, .inl (cI, 6, .inl t_distance)), (t3, .inl (cI, 6, .inl t_firstPassage))] H → va_D A [(th, .inr (3, [.ref t0, .ref t1, .ref t2, .ref t3])), (t0, .inl (cI, 6, .inl t_here)), (t1, .inl (cI, 30, .inl t_arriving)), (t2, .inl (cI, 6, .inl t_distance)), (t3, .inl (cI, 6, .inl t_firstPassage))] → va_S A s.heap H locs → lv_has ls 4 [(0, .ref th), (2, .int b2), (3, .int v3)] → W p l e ({ frames := 0, cells := 0, slots := 0, locals := 0 } : Room) s m args below meth c H locs 0 0 Q (F0 m 9 ls []) := by
  obtain ⟨hx, hb, hr, hml, hown, hts, hlocks, hN, hK, hA⟩ := id C
  intro n
  induction n with
  | zero =>
    intro v3 t_here t_arriving H locs ls hv
    exact False.elim hv
  | succ n ih =>
    intro v3 t_here t_arriving H locs ls hv hP hD hS hl
    rw [vc_X3_arrive_L9] at hv
    refine lv_iload_n hx hb dX3_arrive_9 rfl (lv_at hl 2 rfl) ?_
    refine lv_bipush (v := 6) hx hb dX3_arrive_10 (by decide) ?_
    refine lv_icmp_ge (tgt := 47) hx hb dX3_arrive_12 (by decide) (fun c9 => ?_) (fun c9 => ?_)
    · have hv := hv.1 c9
      exact hKx t_here t_arriving H locs ls hv hP hD hS (lv_sub hl [] rfl)
    · have hv := hv.2 c9
      refine lv_aload_n hx hb dX3_arrive_15 rfl (lv_at hl 0 rfl) ?_
      refine va_get (D := D) (ci := 3) (v := .ref t0) (C := RX3) (T := TX3) (N := 4) hx hb hts iX3 hown hK hP 0 rfl rfl 0 (by decide) (hts _ kw_230) (fun _ h9 => h9) rfl dX3_arrive_16 ?_
      refine lv_iload_n hx hb dX3_arrive_19 rfl (lv_at hl 2 rfl) ?_
      refine lv_dup2_11 hx hb dX3_arrive_20 rfl rfl ?_
      obtain ⟨hi_2, hv⟩ := hv
      refine va_iald hx hb hK hP 1 0 rfl rfl hi_2 dX3_arrive_21 ?_
      refine lv_aload_n hx hb dX3_arrive_22 rfl (lv_at hl 0 rfl) ?_
      refine va_get (D := D) (ci := 3) (v := .ref t1) (C := RX3) (T := TX3) (N := 4) hx hb hts iX3 hown hK hP 0 rfl rfl 1 (by decide) (hts _ kw_231) (fun _ h9 => h9) rfl dX3_arrive_23 ?_
      refine lv_iload_n hx hb dX3_arrive_26 rfl (lv_at hl 1 rfl) ?_
      refine lv_iload_n hx hb dX3_arrive_27 rfl (lv_at hl 2 rfl) ?_
      refine lv_iadd hx hb dX3_arrive_28 ?_
      obtain ⟨hi_3, hv⟩ := hv
      refine va_iald hx hb hK hP 2 0 rfl rfl hi_3 dX3_arrive_29 ?_
      refine lv_iadd hx hb dX3_arrive_30 ?_
      obtain ⟨hi_4, hv⟩ := hv
      refine va_iast hx hb hK hP hD hS 1 0 rfl rfl hi_4 dX3_arrive_31 (fun H locs hP hD hS => ?_)
      have hP : va_P D vwCl [(th, .inr (3, [.ref t0, .ref t1, .ref t2, .ref t3])), (t0, .inl (cI, 6, .inl (upd t_here v3.toNatClampNeg ((t_here v3.toNatClampNeg) + (t_arriving ((b2 + v3)).toNatClampNeg))))), (t1, .inl (cI, 30, .inl t_arriving)), (t2, .inl (cI, 6, .inl t_distance)), (t3, .inl (cI, 6, .inl t_firstPassage))] H := hP
      have hD : va_D A [(th, .inr (3, [.ref t0, .ref t1, .ref t2, .ref t3])), (t0, .inl (cI, 6, .inl (upd t_here v3.toNatClampNeg ((t_here v3.toNatClampNeg) + (t_arriving ((b2 + v3)).toNatClampNeg))))), (t1, .inl (cI, 30, .inl t_arriving)), (t2, .inl (cI, 6, .inl t_distance)), (t3, .inl (cI, 6, .inl t_firstPassage))] := hD
      refine lv_aload_n hx hb dX3_arrive_32 rfl (lv_at hl 0 rfl) ?_
      refine va_get (D := D) (ci := 3) (v := .ref t1) (C := RX3) (T := TX3) (N := 4) hx hb hts iX3 hown hK hP 0 rfl rfl 1 (by decide) (hts _ kw_231) (fun _ h9 => h9) rfl dX3_arrive_33 ?_
      refine lv_iload_n hx hb dX3_arrive_36 rfl (lv_at hl 1 rfl) ?_
      refine lv_iload_n hx hb dX3_arrive_37 rfl (lv_at hl 2 rfl) ?_
      refine lv_iadd hx hb dX3_arrive_38 ?_
      refine lv_iconst (v := 0) hx hb dX3_arrive_39 (by decide) ?_
      obtain ⟨hi_5, hv⟩ := hv
      refine va_iast hx hb hK hP hD hS 2 0 rfl rfl hi_5 dX3_arrive_40 (fun H locs hP hD hS => ?_)
      have hP : va_P D vwCl [(th, .inr (3, [.ref t0, .ref t1, .ref t2, .ref t3])), (t0, .inl (cI, 6, .inl (upd t_here v3.toNatClampNeg ((t_here v3.toNatClampNeg) + (t_arriving ((b2 + v3)).toNatClampNeg))))), (t1, .inl (cI, 30, .inl (upd t_arriving ((b2 + v3)).toNatClampNeg 0))), (t2, .inl (cI, 6, .inl t_distance)), (t3, .inl (cI, 6, .inl t_firstPassage))] H := hP
      have hD : va_D A [(th, .inr (3, [.ref t0, .ref t1, .ref t2, .ref t3])), (t0, .inl (cI, 6, .inl (upd t_here v3.toNatClampNeg ((t_here v3.toNatClampNeg) + (t_arriving ((b2 + v3)).toNatClampNeg))))), (t1, .inl (cI, 30, .inl (upd t_arriving ((b2 + v3)).toNatClampNeg 0))), (t2, .inl (cI, 6, .inl t_distance)), (t3, .inl (cI, 6, .inl t_firstPassage))] := hD
      obtain ⟨x3_6, ex3_6⟩ : ∃ y : Int32, y = v3 + 1 := ⟨_, rfl⟩
      have hv := hv x3_6 ex3_6
      refine lv_iinc (v := x3_6) (lv' := [(3, .int x3_6), (0, .ref th), (2, .int b2)]) hx hb dX3_arrive_41 hl (k := 2) rfl (by rw [ex3_6]; rfl) (by decide) rfl (fun ls hl => ?_)
      refine lv_goto (tgt := 9) hx hb dX3_arrive_44 (by decide) ?_
      exact ih x3_6 (upd t_here v3.toNatClampNeg ((t_here v3.toNatClampNeg) + (t_arriving ((b2 + v3)).toNatClampNeg))) (upd t_arriving ((b2 + v3)).toNatClampNeg 0) H locs ls hv hP hD hS (lv_sub hl [1, 2, 0] rfl)

def vc_X3_arrive (a1 : Int32) (t_here : (Nat → Int32)) (t_arriving : (Nat → Int32)) (post : ((Nat → Int32) × (Nat → Int32)) → Prop) : Prop :=
  (∀ x2_1 : Int32, x2_1 = ((a1 - a1 / 5 * 5) * 6) → (∃ n_9, vc_X3_arrive_L9 (fun t_here_7 t_arriving_8 => post (t_here_7, t_arriving_8))  x2_1 n_9 0 t_here t_arriving))

set_option maxHeartbeats 4000000 in
set_option maxRecDepth 100000 in
theorem m_X3_arrive (l : Launch) (D : va_G) (cI cZ : ClassId) (th t0 t1 t2 t3 : Nat) (a1 : Int32) (t_here : (Nat → Int32)) (t_arriving : (Nat → Int32)) (t_distance : (Nat → Int32)) (t_firstPassage : (Nat → Int32)) (sz : Nat) {post : ((Nat → Int32) × (Nat → Int32)) → Prop} (hv : vc_X3_arrive a1 t_here t_arriving post) :
    Met l yX3_arrive (Cond.code yX3_arrive cX3_arrive 4 none :: lw_good) ({ frames := 0, cells := 0, slots := 0, locals := 0 } : Room) (va_Pc [.ref th, .int a1] (lw_B D cI cZ [(th, .inr (3, [.ref t0, .ref t1, .ref t2, .ref t3])), (t0, .inl (cI, 6, .inl t_here)), (t1, .inl (cI, 30, .inl t_arriving)), (t2, .inl (cI, 6, .inl t_distance)), (t3, .inl (cI, 6, .inl t_firstPassage))] sz)) (lw_Qv D cI cZ (va_A [(th, .inr (3, [.ref t0, .ref t1, .ref t2, .ref t3])), (t0, .inl (cI, 6, .inl t_here)), (t1, .inl (cI, 30, .inl t_arriving)), (t2, .inl (cI, 6, .inl t_distance)), (t3, .inl (cI, 6, .inl t_firstPassage))] sz) (fun u : (Nat → Int32) × (Nat → Int32) => [(th, .inr (3, [.ref t0, .ref t1, .ref t2, .ref t3])), (t0, .inl (cI, 6, .inl u.1)), (t1, .inl (cI, 30, .inl u.2)), (t2, .inl (cI, 6, .inl t_distance)), (t3, .inl (cI, 6, .inl t_firstPassage))]) post) 0 0 (va_A [(th, .inr (3, [.ref t0, .ref t1, .ref t2, .ref t3])), (t0, .inl (cI, 6, .inl t_here)), (t1, .inl (cI, 30, .inl t_arriving)), (t2, .inl (cI, 6, .inl t_distance)), (t3, .inl (cI, 6, .inl t_firstPassage))] sz) := by
  refine lw_met (Q := fun A => lw_Qv D cI cZ A (fun u : (Nat → Int32) × (Nat → Int32) => [(th, .inr (3, [.ref t0, .ref t1, .ref t2, .ref t3])), (t0, .inl (cI, 6, .inl u.1)), (t1, .inl (cI, 30, .inl u.2)), (t2, .inl (cI, 6, .inl t_distance)), (t3, .inl (cI, 6, .inl t_firstPassage))]) post) (by decide) (Nat.le_of_ble_eq_true rfl) ?_
  intro p e s m below meth c A C hnm hP hD hS ls hl
  have C : lw_Cx D cI cZ p s m _ meth c cX3_arrive 4 none RX3 A := C
  obtain ⟨hx, hb, hr, hml, hown, hts, hlocks, hN, hK, hA⟩ := id C
  have hl : lv_has ls 4 [(0, .ref th), (1, .int a1)] := hl
  obtain ⟨H, hH⟩ : ∃ H, H = s.heap := ⟨_, rfl⟩
  rw [← hH] at hP
  have hS : va_S A s.heap H [] := by rw [hH]; exact hS
  suffices hgoal : W p l e ({ frames := 0, cells := 0, slots := 0, locals := 0 } : Room) s m #[.ref th, .int a1] below meth c H [] 0 0 (MQ below (lw_Qv D cI cZ A (fun u : (Nat → Int32) × (Nat → Int32) => [(th, .inr (3, [.ref t0, .ref t1, .ref t2, .ref t3])), (t0, .inl (cI, 6, .inl u.1)), (t1, .inl (cI, 30, .inl u.2)), (t2, .inl (cI, 6, .inl t_distance)), (t3, .inl (cI, 6, .inl t_firstPassage))]) post) #[.ref th, .int a1] s 0 0 A) (F0 m 0 ls []) by rw [hH] at hgoal; exact hgoal
  obtain ⟨locs, hlo⟩ : ∃ locs : List Loc, locs = [] := ⟨_, rfl⟩
  rw [← hlo] at hS ⊢
  rw [vc_X3_arrive] at hv
  refine lv_iload_n hx hb dX3_arrive_0 rfl (lv_at hl 1 rfl) ?_
  refine lv_iconst (v := 5) hx hb dX3_arrive_1 (by decide) ?_
  refine lv_irem hx hb dX3_arrive_2 (by decide) ?_
  refine lv_bipush (v := 6) hx hb dX3_arrive_3 (by decide) ?_
  refine lv_imul hx hb dX3_arrive_5 ?_
  refine lv_topi (fun x2_1 ex2_1 => ?_)
  have hv := hv x2_1 ex2_1
  refine lv_istore_n (lv' := [(2, .int x2_1), (0, .ref th), (1, .int a1)]) hx hb dX3_arrive_6 rfl hl (by decide) rfl (fun ls hl => ?_)
  refine lv_iconst (v := 0) hx hb dX3_arrive_7 (by decide) ?_
  refine lv_istore_n (lv' := [(3, .int 0), (2, .int x2_1), (0, .ref th), (1, .int a1)]) hx hb dX3_arrive_8 rfl hl (by decide) rfl (fun ls hl => ?_)
  obtain ⟨n_9, hv⟩ := hv
  refine w_X3_arrive_L9 th t0 t1 t2 t3 x2_1 t_distance t_firstPassage C _ (fun t_here_7 t_arriving_8 H locs ls hv hP hD hS hl => ?_) n_9 0 t_here t_arriving H locs ls hv hP hD hS (lv_sub hl [2, 1, 0] rfl)
  exact lw_vret C (t_here_7, t_arriving_8) hv hP hD hS dX3_arrive_47

def vc_X3_peopleIn_L4 (K : Int32 → Prop) (b1 : Int32) (t_here : (Nat → Int32)) : Nat → Int32 → Int32 → Prop
  | 0, _, _ => False
  | n + 1, v2, v3 =>
    ((6 ≤ v3 → K v2) ∧ (¬ 6 ≤ v3 → (vc_X4_isIn b1 v3 (fun (r_2 : Int32) (u_1 : Unit) => ((r_2 = 0 → (∀ x3_3 : Int32, x3_3 = v3 + 1 → vc_X3_peopleIn_L4 K b1 t_here n v2 x3_3)) ∧ (¬ r_2 = 0 → (vp_in v3 6 ∧ (∀ x2_5 : Int32, x2_5 = (v2 + (t_here v3.toNatClampNeg)) → (∀ x3_6 : Int32, x3_6 = v3 + 1 → vc_X3_peopleIn_L4 K b1 t_here n x2_5 x3_6)))))))))

set_option maxHeartbeats 4000000 in
set_option maxRecDepth 100000 in
theorem w_X3_peopleIn_L4 {p : Program} {l : Launch} {e : Env} {s : State} {m : MethodId} {args : Array Value} {below : List Frame} {meth : Method} {c : Code} {D : va_G} {cI cZ : ClassId} {A : Nat → Prop} {Q : State → Prop} (th t0 t1 t2 t3 : Nat) (b1 : Int32) (t_here : (Nat → Int32)) (t_arriving : (Nat → Int32)) (t_distance : (Nat → Int32)) (t_firstPassage : (Nat → Int32)) (C : lw_Cx D cI cZ p s m args meth c cX3_peopleIn 4 (some .int) RX3 A) (K : Int32 → Prop) (hKx : ∀ (k2 : Int32) (H : Heap) (locs : List Loc) (ls : Array Slot), K k2 → va_P D vwCl [(th, .inr (3, [.ref t0, .ref t1, .ref t2, .ref t3])), (t0, .inl (cI, 6, .inl t_here)), (t1, .inl (cI, 30, .inl t_arriving)), (t2, .inl (cI, 6, .inl t_distance)), (t3, .inl (cI, 6, .inl t_firstPassage))] H → va_D A [(th, .inr (3, [.ref t0, .ref t1, .ref t2, .ref t3])), (t0, .inl (cI, 6, .inl t_here)), (t1, .inl (cI, 30, .inl t_arriving)), (t2, .inl (cI, 6, .inl t_distance)), (t3, .inl (cI, 6, .inl t_firstPassage))] → va_S A s.heap H locs → lv_has ls 4 [(2, .int k2)] → W p l e ({ frames := 1, cells := 0, slots := 0, locals := 21 } : Room) s m args below meth c H locs 0 0 Q (F0 m 33 ls [])) :
    ∀ (n : Nat) (v2 : Int32) (v3 : Int32) (H : Heap) (locs : List Loc) (ls : Array Slot), vc_X3_peopleIn_L4 K b1 t_here n v2 v3 → va_P D vwCl [(th, .inr (3, [.ref t0, .ref t1, .ref t2, .ref t3])), (t0, .inl (cI, 6, .inl t_here)), (t1, .inl (cI, 30, .inl t_arriving)), (t2, .inl (cI, 6, .inl t_distance)), (t3, .inl (cI, 6, .inl t_firstPassage))] H → va_D A [(th, .inr (3, [.ref t0, .ref t1, .ref t2, .ref t3])), (t0, .inl (cI, 6, .inl t_here)), (t1, .inl (cI, 30, .inl t_arriving)), (t2, .inl (cI, 6, .inl t_distance)), (t3, .inl (cI, 6, .inl t_firstPassage))] → va_S A s.heap H locs → lv_has ls 4 [(0, .ref th), (1, .int b1), (2, .int v2), (3, .int v3)] → W p l e ({ frames := 1, cells := 0, slots := 0, locals := 21 } : Room) s m args below meth c H locs 0 0 Q (F0 m 4 ls []) := by
  obtain ⟨hx, hb, hr, hml, hown, hts, hlocks, hN, hK, hA⟩ := id C
  intro n
  induction n with
  | zero =>
    intro v2 v3 H locs ls hv
    exact False.elim hv
  | succ n ih =>
    intro v2 v3 H locs ls hv hP hD hS hl
    rw [vc_X3_peopleIn_L4] at hv
    refine lv_iload_n hx hb dX3_peopleIn_4 rfl (lv_at hl 3 rfl) ?_
    refine lv_bipush (v := 6) hx hb dX3_peopleIn_5 (by decide) ?_
    refine lv_icmp_ge (tgt := 33) hx hb dX3_peopleIn_7 (by decide) (fun c9 => ?_) (fun c9 => ?_)
    · have hv := hv.1 c9
      exact hKx v2 H locs ls hv hP hD hS (lv_sub hl [2] rfl)
    · have hv := hv.2 c9
      refine lv_iload_n hx hb dX3_peopleIn_10 rfl (lv_at hl 1 rfl) ?_
      refine lv_iload_n hx hb dX3_peopleIn_11 rfl (lv_at hl 3 rfl) ?_
      refine lw_calli (wr := [(th, .inr (3, [.ref t0, .ref t1, .ref t2, .ref t3])), (t0, .inl (cI, 6, .inl t_here)), (t1, .inl (cI, 30, .inl t_arriving)), (t2, .inl (cI, 6, .inl t_distance)), (t3, .inl (cI, 6, .inl t_firstPassage))]) C (lw_runSN (own := RX3) (n := 2) C hP hD [] rfl rfl (m_X4_isIn l D cI cZ b1 v3 H.size hv) kw_353 kw_503 kw_352 kw_68 (by decide +kernel) rfl ⟨rfl, rfl, Nat.le_of_ble_eq_true rfl, Nat.le_of_ble_eq_true rfl, Nat.le_of_ble_eq_true rfl, Nat.le_of_ble_eq_true rfl⟩ hl.1 rfl (Nat.le_of_ble_eq_true rfl) dX3_peopleIn_12) hP hD hS [] [0, 1, 2, 3, 4] rfl rfl rfl (by decide +kernel) (fun r_2 u_1 H locs hv hP hD hS => ?_)
      have hP : va_P D vwCl [(th, .inr (3, [.ref t0, .ref t1, .ref t2, .ref t3])), (t0, .inl (cI, 6, .inl t_here)), (t1, .inl (cI, 30, .inl t_arriving)), (t2, .inl (cI, 6, .inl t_distance)), (t3, .inl (cI, 6, .inl t_firstPassage))] H := hP.sub [0, 1, 2, 3, 4] rfl
      have hD : va_D A [(th, .inr (3, [.ref t0, .ref t1, .ref t2, .ref t3])), (t0, .inl (cI, 6, .inl t_here)), (t1, .inl (cI, 30, .inl t_arriving)), (t2, .inl (cI, 6, .inl t_distance)), (t3, .inl (cI, 6, .inl t_firstPassage))] := hD.sub [0, 1, 2, 3, 4] rfl rfl
      refine lv_if_eq (tgt := 27) hx hb dX3_peopleIn_15 (by decide) (fun c9 => ?_) (fun c9 => ?_)
      · have hv := hv.1 c9
        obtain ⟨x3_3, ex3_3⟩ : ∃ y : Int32, y = v3 + 1 := ⟨_, rfl⟩
        have hv := hv x3_3 ex3_3
        refine lv_iinc (v := x3_3) (lv' := [(3, .int x3_3), (0, .ref th), (1, .int b1), (2, .int v2)]) hx hb dX3_peopleIn_27 hl (k := 3) rfl (by rw [ex3_3]; rfl) (by decide) rfl (fun ls hl => ?_)
        refine lv_goto (tgt := 4) hx hb dX3_peopleIn_30 (by decide) ?_
        exact ih v2 x3_3 H locs ls hv hP hD hS (lv_sub hl [1, 2, 3, 0] rfl)
      · have hv := hv.2 c9
        refine lv_iload_n hx hb dX3_peopleIn_18 rfl (lv_at hl 2 rfl) ?_
        refine lv_aload_n hx hb dX3_peopleIn_19 rfl (lv_at hl 0 rfl) ?_
        refine va_get (D := D) (ci := 3) (v := .ref t0) (C := RX3) (T := TX3) (N := 4) hx hb hts iX3 hown hK hP 0 rfl rfl 0 (by decide) (hts _ kw_230) (fun _ h9 => h9) rfl dX3_peopleIn_20 ?_
        refine lv_iload_n hx hb dX3_peopleIn_23 rfl (lv_at hl 3 rfl) ?_
        obtain ⟨hi_4, hv⟩ := hv
        refine va_iald hx hb hK hP 1 0 rfl rfl hi_4 dX3_peopleIn_24 ?_
        refine lv_iadd hx hb dX3_peopleIn_25 ?_
        refine lv_topi (fun x2_5 ex2_5 => ?_)
        have hv := hv x2_5 ex2_5
        refine lv_istore_n (lv' := [(2, .int x2_5), (0, .ref th), (1, .int b1), (3, .int v3)]) hx hb dX3_peopleIn_26 rfl hl (by decide) rfl (fun ls hl => ?_)
        obtain ⟨x3_6, ex3_6⟩ : ∃ y : Int32, y = v3 + 1 := ⟨_, rfl⟩
        have hv := hv x3_6 ex3_6
        refine lv_iinc (v := x3_6) (lv' := [(3, .int x3_6), (2, .int x2_5), (0, .ref th), (1, .int b1)]) hx hb dX3_peopleIn_27 hl (k := 3) rfl (by rw [ex3_6]; rfl) (by decide) rfl (fun ls hl => ?_)
        refine lv_goto (tgt := 4) hx hb dX3_peopleIn_30 (by decide) ?_
        exact ih x2_5 x3_6 H locs ls hv hP hD hS (lv_sub hl [2, 3, 1, 0] rfl)

def vc_X3_peopleIn (a1 : Int32) (t_here : (Nat → Int32)) (post : Int32 → Unit → Prop) : Prop :=
  (∃ n_8, vc_X3_peopleIn_L4 (fun k2_7 => post k2_7 ())  a1 t_here n_8 0 0)

set_option maxHeartbeats 4000000 in
set_option maxRecDepth 100000 in
theorem m_X3_peopleIn (l : Launch) (D : va_G) (cI cZ : ClassId) (th t0 t1 t2 t3 : Nat) (a1 : Int32) (t_here : (Nat → Int32)) (t_arriving : (Nat → Int32)) (t_distance : (Nat → Int32)) (t_firstPassage : (Nat → Int32)) (sz : Nat) {post : Int32 → Unit → Prop} (hv : vc_X3_peopleIn a1 t_here post) :
    Met l yX3_peopleIn (Cond.code yX3_peopleIn cX3_peopleIn 4 (some .int) :: lw_good) ({ frames := 1, cells := 0, slots := 0, locals := 21 } : Room) (va_Pc [.ref th, .int a1] (lw_B D cI cZ [(th, .inr (3, [.ref t0, .ref t1, .ref t2, .ref t3])), (t0, .inl (cI, 6, .inl t_here)), (t1, .inl (cI, 30, .inl t_arriving)), (t2, .inl (cI, 6, .inl t_distance)), (t3, .inl (cI, 6, .inl t_firstPassage))] sz)) (lw_Qi D cI cZ (va_A [(th, .inr (3, [.ref t0, .ref t1, .ref t2, .ref t3])), (t0, .inl (cI, 6, .inl t_here)), (t1, .inl (cI, 30, .inl t_arriving)), (t2, .inl (cI, 6, .inl t_distance)), (t3, .inl (cI, 6, .inl t_firstPassage))] sz) (fun u : Unit => [(th, .inr (3, [.ref t0, .ref t1, .ref t2, .ref t3])), (t0, .inl (cI, 6, .inl t_here)), (t1, .inl (cI, 30, .inl t_arriving)), (t2, .inl (cI, 6, .inl t_distance)), (t3, .inl (cI, 6, .inl t_firstPassage))]) post) 0 0 (va_A [(th, .inr (3, [.ref t0, .ref t1, .ref t2, .ref t3])), (t0, .inl (cI, 6, .inl t_here)), (t1, .inl (cI, 30, .inl t_arriving)), (t2, .inl (cI, 6, .inl t_distance)), (t3, .inl (cI, 6, .inl t_firstPassage))] sz) := by
  refine lw_met (Q := fun A => lw_Qi D cI cZ A (fun u : Unit => [(th, .inr (3, [.ref t0, .ref t1, .ref t2, .ref t3])), (t0, .inl (cI, 6, .inl t_here)), (t1, .inl (cI, 30, .inl t_arriving)), (t2, .inl (cI, 6, .inl t_distance)), (t3, .inl (cI, 6, .inl t_firstPassage))]) post) (by decide) (Nat.le_of_ble_eq_true rfl) ?_
  intro p e s m below meth c A C hnm hP hD hS ls hl
  have C : lw_Cx D cI cZ p s m _ meth c cX3_peopleIn 4 (some .int) RX3 A := C
  obtain ⟨hx, hb, hr, hml, hown, hts, hlocks, hN, hK, hA⟩ := id C
  have hl : lv_has ls 4 [(0, .ref th), (1, .int a1)] := hl
  obtain ⟨H, hH⟩ : ∃ H, H = s.heap := ⟨_, rfl⟩
  rw [← hH] at hP
  have hS : va_S A s.heap H [] := by rw [hH]; exact hS
  suffices hgoal : W p l e ({ frames := 1, cells := 0, slots := 0, locals := 21 } : Room) s m #[.ref th, .int a1] below meth c H [] 0 0 (MQ below (lw_Qi D cI cZ A (fun u : Unit => [(th, .inr (3, [.ref t0, .ref t1, .ref t2, .ref t3])), (t0, .inl (cI, 6, .inl t_here)), (t1, .inl (cI, 30, .inl t_arriving)), (t2, .inl (cI, 6, .inl t_distance)), (t3, .inl (cI, 6, .inl t_firstPassage))]) post) #[.ref th, .int a1] s 0 0 A) (F0 m 0 ls []) by rw [hH] at hgoal; exact hgoal
  obtain ⟨locs, hlo⟩ : ∃ locs : List Loc, locs = [] := ⟨_, rfl⟩
  rw [← hlo] at hS ⊢
  rw [vc_X3_peopleIn] at hv
  refine lv_iconst (v := 0) hx hb dX3_peopleIn_0 (by decide) ?_
  refine lv_istore_n (lv' := [(2, .int 0), (0, .ref th), (1, .int a1)]) hx hb dX3_peopleIn_1 rfl hl (by decide) rfl (fun ls hl => ?_)
  refine lv_iconst (v := 0) hx hb dX3_peopleIn_2 (by decide) ?_
  refine lv_istore_n (lv' := [(3, .int 0), (2, .int 0), (0, .ref th), (1, .int a1)]) hx hb dX3_peopleIn_3 rfl hl (by decide) rfl (fun ls hl => ?_)
  obtain ⟨n_8, hv⟩ := hv
  refine w_X3_peopleIn_L4 th t0 t1 t2 t3 a1 t_here t_arriving t_distance t_firstPassage C _ (fun k2_7 H locs ls hv hP hD hS hl => ?_) n_8 0 0 H locs ls hv hP hD hS (lv_sub hl [2, 3, 1, 0] rfl)
  refine lv_iload_n hx hb dX3_peopleIn_33 rfl (lv_at hl 0 rfl) ?_
  exact lw_iret C () hv hP hD hS dX3_peopleIn_34

def vc_X3_distanceThrough (a2 : Int32) (a3 : Int32) (t_distance : (Nat → Int32)) (q_to : (Nat → Int32)) (q_length : (Nat → Int32)) (q_shut : (Nat → Int32)) (post : Int32 → Unit → Prop) : Prop :=
  (vp_in a2 10 ∧ (vp_in (q_to a2.toNatClampNeg) 6 ∧ (∀ x4_3 : Int32, x4_3 = (t_distance ((q_to a2.toNatClampNeg)).toNatClampNeg) → (vp_in a2 10 ∧ (((q_shut a2.toNatClampNeg) ≤ a3 → post 1000 ()) ∧ (¬ (q_shut a2.toNatClampNeg) ≤ a3 → ((¬ x4_3 = 1000 → (vp_in a2 10 ∧ post ((q_length a2.toNatClampNeg) + x4_3) ())) ∧ (x4_3 = 1000 → post 1000 ()))))))))

set_option maxHeartbeats 4000000 in
set_option maxRecDepth 100000 in
theorem m_X3_distanceThrough (l : Launch) (D : va_G) (cI cZ : ClassId) (th t0 t1 t2 t3 qh q0 q1 q4 q5 q6 q7 q8 : Nat) (a2 : Int32) (a3 : Int32) (t_here : (Nat → Int32)) (t_arriving : (Nat → Int32)) (t_distance : (Nat → Int32)) (t_firstPassage : (Nat → Int32)) (q_people : (Nat → Int32)) (q_area : (Nat → Int32)) (q_safeRooms : Int32) (q_passages : Int32) (q_from : (Nat → Int32)) (q_to : (Nat → Int32)) (q_width : (Nat → Int32)) (q_length : (Nat → Int32)) (q_shut : (Nat → Int32)) (sz : Nat) {post : Int32 → Unit → Prop} (hv : vc_X3_distanceThrough a2 a3 t_distance q_to q_length q_shut post) :
    Met l yX3_distanceThrough (Cond.code yX3_distanceThrough cX3_distanceThrough 5 (some .int) :: lw_good) ({ frames := 0, cells := 0, slots := 0, locals := 0 } : Room) (va_Pc [.ref th, .ref qh, .int a2, .int a3] (lw_B D cI cZ [(th, .inr (3, [.ref t0, .ref t1, .ref t2, .ref t3])), (t0, .inl (cI, 6, .inl t_here)), (t1, .inl (cI, 30, .inl t_arriving)), (t2, .inl (cI, 6, .inl t_distance)), (t3, .inl (cI, 6, .inl t_firstPassage)), (qh, .inr (2, [.ref q0, .ref q1, .int q_safeRooms, .int q_passages, .ref q4, .ref q5, .ref q6, .ref q7, .ref q8])), (q0, .inl (cI, 6, .inl q_people)), (q1, .inl (cI, 6, .inl q_area)), (q4, .inl (cI, 10, .inl q_from)), (q5, .inl (cI, 10, .inl q_to)), (q6, .inl (cI, 10, .inl q_width)), (q7, .inl (cI, 10, .inl q_length)), (q8, .inl (cI, 10, .inl q_shut))] sz)) (lw_Qi D cI cZ (va_A [(th, .inr (3, [.ref t0, .ref t1, .ref t2, .ref t3])), (t0, .inl (cI, 6, .inl t_here)), (t1, .inl (cI, 30, .inl t_arriving)), (t2, .inl (cI, 6, .inl t_distance)), (t3, .inl (cI, 6, .inl t_firstPassage)), (qh, .inr (2, [.ref q0, .ref q1, .int q_safeRooms, .int q_passages, .ref q4, .ref q5, .ref q6, .ref q7, .ref q8])), (q0, .inl (cI, 6, .inl q_people)), (q1, .inl (cI, 6, .inl q_area)), (q4, .inl (cI, 10, .inl q_from)), (q5, .inl (cI, 10, .inl q_to)), (q6, .inl (cI, 10, .inl q_width)), (q7, .inl (cI, 10, .inl q_length)), (q8, .inl (cI, 10, .inl q_shut))] sz) (fun u : Unit => [(th, .inr (3, [.ref t0, .ref t1, .ref t2, .ref t3])), (t0, .inl (cI, 6, .inl t_here)), (t1, .inl (cI, 30, .inl t_arriving)), (t2, .inl (cI, 6, .inl t_distance)), (t3, .inl (cI, 6, .inl t_firstPassage)), (qh, .inr (2, [.ref q0, .ref q1, .int q_safeRooms, .int q_passages, .ref q4, .ref q5, .ref q6, .ref q7, .ref q8])), (q0, .inl (cI, 6, .inl q_people)), (q1, .inl (cI, 6, .inl q_area)), (q4, .inl (cI, 10, .inl q_from)), (q5, .inl (cI, 10, .inl q_to)), (q6, .inl (cI, 10, .inl q_width)), (q7, .inl (cI, 10, .inl q_length)), (q8, .inl (cI, 10, .inl q_shut))]) post) 0 0 (va_A [(th, .inr (3, [.ref t0, .ref t1, .ref t2, .ref t3])), (t0, .inl (cI, 6, .inl t_here)), (t1, .inl (cI, 30, .inl t_arriving)), (t2, .inl (cI, 6, .inl t_distance)), (t3, .inl (cI, 6, .inl t_firstPassage)), (qh, .inr (2, [.ref q0, .ref q1, .int q_safeRooms, .int q_passages, .ref q4, .ref q5, .ref q6, .ref q7, .ref q8])), (q0, .inl (cI, 6, .inl q_people)), (q1, .inl (cI, 6, .inl q_area)), (q4, .inl (cI, 10, .inl q_from)), (q5, .inl (cI, 10, .inl q_to)), (q6, .inl (cI, 10, .inl q_width)), (q7, .inl (cI, 10, .inl q_length)), (q8, .inl (cI, 10, .inl q_shut))] sz) := by
  refine lw_met (Q := fun A => lw_Qi D cI cZ A (fun u : Unit => [(th, .inr (3, [.ref t0, .ref t1, .ref t2, .ref t3])), (t0, .inl (cI, 6, .inl t_here)), (t1, .inl (cI, 30, .inl t_arriving)), (t2, .inl (cI, 6, .inl t_distance)), (t3, .inl (cI, 6, .inl t_firstPassage)), (qh, .inr (2, [.ref q0, .ref q1, .int q_safeRooms, .int q_passages, .ref q4, .ref q5, .ref q6, .ref q7, .ref q8])), (q0, .inl (cI, 6, .inl q_people)), (q1, .inl (cI, 6, .inl q_area)), (q4, .inl (cI, 10, .inl q_from)), (q5, .inl (cI, 10, .inl q_to)), (q6, .inl (cI, 10, .inl q_width)), (q7, .inl (cI, 10, .inl q_length)), (q8, .inl (cI, 10, .inl q_shut))]) post) (by decide) (Nat.le_of_ble_eq_true rfl) ?_
  intro p e s m below meth c A C hnm hP hD hS ls hl
  have C : lw_Cx D cI cZ p s m _ meth c cX3_distanceThrough 5 (some .int) RX3 A := C
  obtain ⟨hx, hb, hr, hml, hown, hts, hlocks, hN, hK, hA⟩ := id C
  have hl : lv_has ls 5 [(0, .ref th), (1, .ref qh), (2, .int a2), (3, .int a3)] := hl
  obtain ⟨H, hH⟩ : ∃ H, H = s.heap := ⟨_, rfl⟩
  rw [← hH] at hP
  have hS : va_S A s.heap H [] := by rw [hH]; exact hS
  suffices hgoal : W p l e ({ frames := 0, cells := 0, slots := 0, locals := 0 } : Room) s m #[.ref th, .ref qh, .int a2, .int a3] below meth c H [] 0 0 (MQ below (lw_Qi D cI cZ A (fun u : Unit => [(th, .inr (3, [.ref t0, .ref t1, .ref t2, .ref t3])), (t0, .inl (cI, 6, .inl t_here)), (t1, .inl (cI, 30, .inl t_arriving)), (t2, .inl (cI, 6, .inl t_distance)), (t3, .inl (cI, 6, .inl t_firstPassage)), (qh, .inr (2, [.ref q0, .ref q1, .int q_safeRooms, .int q_passages, .ref q4, .ref q5, .ref q6, .ref q7, .ref q8])), (q0, .inl (cI, 6, .inl q_people)), (q1, .inl (cI, 6, .inl q_area)), (q4, .inl (cI, 10, .inl q_from)), (q5, .inl (cI, 10, .inl q_to)), (q6, .inl (cI, 10, .inl q_width)), (q7, .inl (cI, 10, .inl q_length)), (q8, .inl (cI, 10, .inl q_shut))]) post) #[.ref th, .ref qh, .int a2, .int a3] s 0 0 A) (F0 m 0 ls []) by rw [hH] at hgoal; exact hgoal
  obtain ⟨locs, hlo⟩ : ∃ locs : List Loc, locs = [] := ⟨_, rfl⟩
  rw [← hlo] at hS ⊢
  rw [vc_X3_distanceThrough] at hv
  refine lv_aload_n hx hb dX3_distanceThrough_0 rfl (lv_at hl 0 rfl) ?_
  refine va_get (D := D) (ci := 3) (v := .ref t2) (C := RX3) (T := TX3) (N := 4) hx hb hts iX3 hown hK hP 0 rfl rfl 2 (by decide) (hts _ kw_232) (fun _ h9 => h9) rfl dX3_distanceThrough_1 ?_
  refine lv_aload_n hx hb dX3_distanceThrough_4 rfl (lv_at hl 1 rfl) ?_
  refine va_getN (D := D) (ci := 2) (v := .ref q5) (C := RX2) (T := TX2) (N := 9) hx hb hts iX2 hown hK hP 5 rfl rfl 5 (by decide) (va_Nw.use rfl (hN _ kw_117)) (fun _ h9 => h9) rfl dX3_distanceThrough_5 ?_
  refine lv_iload_n hx hb dX3_distanceThrough_8 rfl (lv_at hl 2 rfl) ?_
  obtain ⟨hi_1, hv⟩ := hv
  refine va_iald hx hb hK hP 9 0 rfl rfl hi_1 dX3_distanceThrough_9 ?_
  obtain ⟨hi_2, hv⟩ := hv
  refine va_iald hx hb hK hP 3 0 rfl rfl hi_2 dX3_distanceThrough_10 ?_
  refine lv_topi (fun x4_3 ex4_3 => ?_)
  have hv := hv x4_3 ex4_3
  refine lv_istore (lv' := [(4, .int x4_3), (0, .ref th), (1, .ref qh), (2, .int a2), (3, .int a3)]) hx hb dX3_distanceThrough_11 hl (by decide) rfl (fun ls hl => ?_)
  refine lv_aload_n hx hb dX3_distanceThrough_13 rfl (lv_at hl 2 rfl) ?_
  refine va_getN (D := D) (ci := 2) (v := .ref q8) (C := RX2) (T := TX2) (N := 9) hx hb hts iX2 hown hK hP 5 rfl rfl 8 (by decide) (va_Nw.use rfl (hN _ kw_130)) (fun _ h9 => h9) rfl dX3_distanceThrough_14 ?_
  refine lv_iload_n hx hb dX3_distanceThrough_17 rfl (lv_at hl 3 rfl) ?_
  obtain ⟨hi_4, hv⟩ := hv
  refine va_iald hx hb hK hP 12 0 rfl rfl hi_4 dX3_distanceThrough_18 ?_
  refine lv_iload_n hx hb dX3_distanceThrough_19 rfl (lv_at hl 4 rfl) ?_
  refine lv_icmp_le (tgt := 31) hx hb dX3_distanceThrough_20 (by decide) (fun c9 => ?_) (fun c9 => ?_)
  · have hv := hv.1 c9
    refine lv_sipush (v := 1000) hx hb dX3_distanceThrough_31 (by decide) ?_
    refine lv_goto (tgt := 46) hx hb dX3_distanceThrough_34 (by decide) ?_
    exact lw_iret C () hv hP hD hS dX3_distanceThrough_46
  · have hv := hv.2 c9
    refine lv_iload hx hb dX3_distanceThrough_23 (lv_at hl 0 rfl) ?_
    refine lv_sipush (v := 1000) hx hb dX3_distanceThrough_25 (by decide) ?_
    refine lv_icmp_ne (tgt := 37) hx hb dX3_distanceThrough_28 (by decide) (fun c9 => ?_) (fun c9 => ?_)
    · have hv := hv.1 c9
      refine lv_aload_n hx hb dX3_distanceThrough_37 rfl (lv_at hl 2 rfl) ?_
      refine va_getN (D := D) (ci := 2) (v := .ref q7) (C := RX2) (T := TX2) (N := 9) hx hb hts iX2 hown hK hP 5 rfl rfl 7 (by decide) (va_Nw.use rfl (hN _ kw_125)) (fun _ h9 => h9) rfl dX3_distanceThrough_38 ?_
      refine lv_iload_n hx hb dX3_distanceThrough_41 rfl (lv_at hl 3 rfl) ?_
      obtain ⟨hi_5, hv⟩ := hv
      refine va_iald hx hb hK hP 11 0 rfl rfl hi_5 dX3_distanceThrough_42 ?_
      refine lv_iload hx hb dX3_distanceThrough_43 (lv_at hl 0 rfl) ?_
      refine lv_iadd hx hb dX3_distanceThrough_45 ?_
      exact lw_iret C () hv hP hD hS dX3_distanceThrough_46
    · have hv := hv.2 c9
      refine lv_sipush (v := 1000) hx hb dX3_distanceThrough_31 (by decide) ?_
      refine lv_goto (tgt := 46) hx hb dX3_distanceThrough_34 (by decide) ?_
      exact lw_iret C () hv hP hD hS dX3_distanceThrough_46

def vc_X3_findDistances_L2 (K : (Nat → Int32) → Prop) (q_safeRooms : Int32) : Nat → Int32 → (Nat → Int32) → Prop
  | 0, _, _ => False
  | n + 1, v3, t_distance =>
    ((6 ≤ v3 → K t_distance) ∧ (¬ 6 ≤ v3 → (vc_X4_isIn q_safeRooms v3 (fun (r_2 : Int32) (u_1 : Unit) => ((r_2 = 0 → (vp_in v3 6 ∧ (∀ x3_4 : Int32, x3_4 = v3 + 1 → vc_X3_findDistances_L2 K q_safeRooms n x3_4 (upd t_distance v3.toNatClampNeg 1000)))) ∧ (¬ r_2 = 0 → (vp_in v3 6 ∧ (∀ x3_6 : Int32, x3_6 = v3 + 1 → vc_X3_findDistances_L2 K q_safeRooms n x3_6 (upd t_distance v3.toNatClampNeg 0)))))))))

set_option maxHeartbeats 4000000 in
set_option maxRecDepth 100000 in
theorem w_X3_findDistances_L2 {p : Program} {l : Launch} {e : Env} {s : State} {m : MethodId} {args : Array Value} {below : List Frame} {meth : Method} {c : Code} {D : va_G} {cI cZ : ClassId} {A : Nat → Prop} {Q : State → Prop} (th t0 t1 t2 t3 qh q0 q1 q4 q5 q6 q7 q8 : Nat) (b2 : Int32) (t_here : (Nat → Int32)) (t_arriving : (Nat → Int32)) (t_firstPassage : (Nat → Int32)) (q_people : (Nat → Int32)) (q_area : (Nat → Int32)) (q_safeRooms : Int32) (q_passages : Int32) (q_from : (Nat → Int32)) (q_to : (Nat → Int32)) (q_width : (Nat → Int32)) (q_length : (Nat → Int32)) (q_shut : (Nat → Int32)) (C : lw_Cx D cI cZ p s m args meth c cX3_findDistances 7 none RX3 A) (K : (Nat → Int32) → Prop) (hKx : ∀ (k_t_distance : (Nat → Int32)) (H : Heap) (locs : List Loc) (ls : Array Slot), K k_t_distance → va_P D vwCl [(th, .inr (3, [.ref t0, .ref t1, .ref t2, .ref t3])), (t0, .inl (cI, 6, .inl t_here)), (t1, .inl (cI, 30, .inl t_arriving)), (t2, .inl (cI, 6, .inl k_t_distance)), (t3, .inl (cI, 6, .inl t_firstPassage)), (qh, .inr (2, [.ref q0, .ref q1, .int q_safeRooms, .int q_passages, .ref q4, .ref q5, .ref q6, .ref q7, .ref q8])), (q0, .inl (cI, 6, .inl q_people)), (q1, .inl (cI, 6, .inl q_area)), (q4, .inl (cI, 10, .inl q_from)), (q5, .inl (cI, 10, .inl q_to)), (q6, .inl (cI, 10, .inl q_width)), (q7, .inl (cI, 10, .inl q_length)), (q8, .inl (cI, 10, .inl q_shut))] H → va_D A [(th, .inr (3, [.ref t0, .ref t1, .ref t2, .ref t3])), (t0, .inl (cI, 6, .inl t_here)), (t1, .inl (cI, 30, .inl t_arriving)), (t2, .inl (cI, 6, .inl k_t_distance)), (t3, .inl (cI, 6, .inl t_firstPassage)), (qh, .inr (2, [.ref q0, .ref q1, .int q_safeRooms, .int q_passages, .ref q4, .ref q5, .ref q6, .ref q7, .ref q8])), (q0, .inl (cI, 6, .inl q_people)), (q1, .inl (cI, 6, .inl q_area)), (q4, .inl (cI, 10, .inl q_from)), (q5, .inl (cI, 10, .inl q_to)), (q6, .inl (cI, 10, .inl q_width)), (q7, .inl (cI, 10, .inl q_length)), (q8, .inl (cI, 10, .inl q_shut))] → va_S A s.heap H locs → lv_has ls 7 [(0, .ref th), (1, .ref qh), (2, .int b2)] → W p l e ({ frames := 1, cells := 0, slots := 0, locals := 24 } : Room) s m args below meth c H locs 0 0 Q (F0 m 38 ls [])) :
    ∀ (n : Nat) (v3 : Int32) (t_distance : (Nat → Int32)) (H : Heap) (locs : List Loc) (ls : Array Slot), vc_X3_findDistances_L2 K q_safeRooms n v3 t_distance → va_P D vwCl [(th, .inr (3, [.ref t0, .ref t1, .ref t2, .ref t3])), (t0, .inl (cI, 6, .inl t_here)), (t1, .inl (cI, 30, .inl t_arriving)), (t2, .inl (cI, 6, .inl t_distance)), (t3, .inl (cI, 6, .inl t_firstPassage)), (qh, .inr (2, [.ref q0, .ref q1, .int q_safeRooms, .int q_passages, .ref q4, .ref q5, .ref q6, .ref q7, .ref q8])), (q0, .inl (cI, 6, .inl q_people)), (q1, .inl (cI, 6, .inl q_area)), (q4, .inl (cI, 10, .inl q_from)), (q5, .inl (cI, 10, .inl q_to)), (q6, .inl (cI, 10, .inl q_width)), (q7, .inl (cI, 10, .inl q_length)), (q8, .inl (cI, 10, .inl q_shut))] H → va_D A [(th, .inr (3, [.ref t0, .ref t1, .ref t2, .ref t3])), (t0, .inl (cI, 6, .inl t_here)), (t1, .inl (cI, 30, .inl t_arriving)), (t2, .inl (cI, 6, .inl t_distance)), (t3, .inl (cI, 6, .inl t_firstPassage)), (qh, .inr (2, [.ref q0, .ref q1, .int q_safeRooms, .int q_passages, .ref q4, .ref q5, .ref q6, .ref q7, .ref q8])), (q0, .inl (cI, 6, .inl q_people)), (q1, .inl (cI, 6, .inl q_area)), (q4, .inl (cI, 10, .inl q_from)), (q5, .inl (cI, 10, .inl q_to)), (q6, .inl (cI, 10, .inl q_width)), (q7, .inl (cI, 10, .inl q_length)), (q8, .inl (cI, 10, .inl q_shut))] → va_S A s.heap H locs → lv_has ls 7 [(0, .ref th), (1, .ref qh), (2, .int b2), (3, .int v3)] → W p l e ({ frames := 1, cells := 0, slots := 0, locals := 24 } : Room) s m args below meth c H locs 0 0 Q (F0 m 2 ls []) := by
  obtain ⟨hx, hb, hr, hml, hown, hts, hlocks, hN, hK, hA⟩ := id C
  intro n
  induction n with
  | zero =>
    intro v3 t_distance H locs ls hv
    exact False.elim hv
  | succ n ih =>
    intro v3 t_distance H locs ls hv hP hD hS hl
    rw [vc_X3_findDistances_L2] at hv
    refine lv_iload_n hx hb dX3_findDistances_2 rfl (lv_at hl 3 rfl) ?_
    refine lv_bipush (v := 6) hx hb dX3_findDistances_3 (by decide) ?_
    refine lv_icmp_ge (tgt := 38) hx hb dX3_findDistances_5 (by decide) (fun c9 => ?_) (fun c9 => ?_)
    · have hv := hv.1 c9
      exact hKx t_distance H locs ls hv hP hD hS (lv_sub hl [0, 1, 2] rfl)
    · have hv := hv.2 c9
      refine lv_aload_n hx hb dX3_findDistances_8 rfl (lv_at hl 0 rfl) ?_
      refine va_get (D := D) (ci := 3) (v := .ref t2) (C := RX3) (T := TX3) (N := 4) hx hb hts iX3 hown hK hP 0 rfl rfl 2 (by decide) (hts _ kw_232) (fun _ h9 => h9) rfl dX3_findDistances_9 ?_
      refine lv_iload_n hx hb dX3_findDistances_12 rfl (lv_at hl 3 rfl) ?_
      refine lv_aload_n hx hb dX3_findDistances_13 rfl (lv_at hl 1 rfl) ?_
      refine va_getN (D := D) (ci := 2) (v := .int q_safeRooms) (C := RX2) (T := TX2) (N := 9) hx hb hts iX2 hown hK hP 5 rfl rfl 2 (by decide) (va_Nw.use rfl (hN _ kw_106)) (fun _ h9 => h9) rfl dX3_findDistances_14 ?_
      refine lv_iload_n hx hb dX3_findDistances_17 rfl (lv_at hl 3 rfl) ?_
      refine lw_calli (wr := [(th, .inr (3, [.ref t0, .ref t1, .ref t2, .ref t3])), (t0, .inl (cI, 6, .inl t_here)), (t1, .inl (cI, 30, .inl t_arriving)), (t2, .inl (cI, 6, .inl t_distance)), (t3, .inl (cI, 6, .inl t_firstPassage)), (qh, .inr (2, [.ref q0, .ref q1, .int q_safeRooms, .int q_passages, .ref q4, .ref q5, .ref q6, .ref q7, .ref q8])), (q0, .inl (cI, 6, .inl q_people)), (q1, .inl (cI, 6, .inl q_area)), (q4, .inl (cI, 10, .inl q_from)), (q5, .inl (cI, 10, .inl q_to)), (q6, .inl (cI, 10, .inl q_width)), (q7, .inl (cI, 10, .inl q_length)), (q8, .inl (cI, 10, .inl q_shut))]) C (lw_runSN (own := RX3) (n := 2) C hP hD [] rfl rfl (m_X4_isIn l D cI cZ q_safeRooms v3 H.size hv) kw_353 kw_503 kw_352 kw_68 (by decide +kernel) rfl ⟨rfl, rfl, Nat.le_of_ble_eq_true rfl, Nat.le_of_ble_eq_true rfl, Nat.le_of_ble_eq_true rfl, Nat.le_of_ble_eq_true rfl⟩ hl.1 rfl (Nat.le_of_ble_eq_true rfl) dX3_findDistances_18) hP hD hS [] [0, 1, 2, 3, 4, 5, 6, 7, 8, 9, 10, 11, 12] rfl rfl rfl (by decide +kernel) (fun r_2 u_1 H locs hv hP hD hS => ?_)
      have hP : va_P D vwCl [(th, .inr (3, [.ref t0, .ref t1, .ref t2, .ref t3])), (t0, .inl (cI, 6, .inl t_here)), (t1, .inl (cI, 30, .inl t_arriving)), (t2, .inl (cI, 6, .inl t_distance)), (t3, .inl (cI, 6, .inl t_firstPassage)), (qh, .inr (2, [.ref q0, .ref q1, .int q_safeRooms, .int q_passages, .ref q4, .ref q5, .ref q6, .ref q7, .ref q8])), (q0, .inl (cI, 6, .inl q_people)), (q1, .inl (cI, 6, .inl q_area)), (q4, .inl (cI, 10, .inl q_from)), (q5, .inl (cI, 10, .inl q_to)), (q6, .inl (cI, 10, .inl q_width)), (q7, .inl (cI, 10, .inl q_length)), (q8, .inl (cI, 10, .inl q_shut))] H := hP.sub [0, 1, 2, 3, 4, 5, 6, 7, 8, 9, 10, 11, 12] rfl
      have hD : va_D A [(th, .inr (3, [.ref t0, .ref t1, .ref t2, .ref t3])), (t0, .inl (cI, 6, .inl t_here)), (t1, .inl (cI, 30, .inl t_arriving)), (t2, .inl (cI, 6, .inl t_distance)), (t3, .inl (cI, 6, .inl t_firstPassage)), (qh, .inr (2, [.ref q0, .ref q1, .int q_safeRooms, .int q_passages, .ref q4, .ref q5, .ref q6, .ref q7, .ref q8])), (q0, .inl (cI, 6, .inl q_people)), (q1, .inl (cI, 6, .inl q_area)), (q4, .inl (cI, 10, .inl q_from)), (q5, .inl (cI, 10, .inl q_to)), (q6, .inl (cI, 10, .inl q_width)), (q7, .inl (cI, 10, .inl q_length)), (q8, .inl (cI, 10, .inl q_shut))] := hD.sub [0, 1, 2, 3, 4, 5, 6, 7, 8, 9, 10, 11, 12] rfl rfl
      refine lv_if_eq (tgt := 28) hx hb dX3_findDistances_21 (by decide) (fun c9 => ?_) (fun c9 => ?_)
      · have hv := hv.1 c9
        refine lv_sipush (v := 1000) hx hb dX3_findDistances_28 (by decide) ?_
        obtain ⟨hi_3, hv⟩ := hv
        refine va_iast hx hb hK hP hD hS 3 0 rfl rfl hi_3 dX3_findDistances_31 (fun H locs hP hD hS => ?_)
        have hP : va_P D vwCl [(th, .inr (3, [.ref t0, .ref t1, .ref t2, .ref t3])), (t0, .inl (cI, 6, .inl t_here)), (t1, .inl (cI, 30, .inl t_arriving)), (t2, .inl (cI, 6, .inl (upd t_distance v3.toNatClampNeg 1000))), (t3, .inl (cI, 6, .inl t_firstPassage)), (qh, .inr (2, [.ref q0, .ref q1, .int q_safeRooms, .int q_passages, .ref q4, .ref q5, .ref q6, .ref q7, .ref q8])), (q0, .inl (cI, 6, .inl q_people)), (q1, .inl (cI, 6, .inl q_area)), (q4, .inl (cI, 10, .inl q_from)), (q5, .inl (cI, 10, .inl q_to)), (q6, .inl (cI, 10, .inl q_width)), (q7, .inl (cI, 10, .inl q_length)), (q8, .inl (cI, 10, .inl q_shut))] H := hP
        have hD : va_D A [(th, .inr (3, [.ref t0, .ref t1, .ref t2, .ref t3])), (t0, .inl (cI, 6, .inl t_here)), (t1, .inl (cI, 30, .inl t_arriving)), (t2, .inl (cI, 6, .inl (upd t_distance v3.toNatClampNeg 1000))), (t3, .inl (cI, 6, .inl t_firstPassage)), (qh, .inr (2, [.ref q0, .ref q1, .int q_safeRooms, .int q_passages, .ref q4, .ref q5, .ref q6, .ref q7, .ref q8])), (q0, .inl (cI, 6, .inl q_people)), (q1, .inl (cI, 6, .inl q_area)), (q4, .inl (cI, 10, .inl q_from)), (q5, .inl (cI, 10, .inl q_to)), (q6, .inl (cI, 10, .inl q_width)), (q7, .inl (cI, 10, .inl q_length)), (q8, .inl (cI, 10, .inl q_shut))] := hD
        obtain ⟨x3_4, ex3_4⟩ : ∃ y : Int32, y = v3 + 1 := ⟨_, rfl⟩
        have hv := hv x3_4 ex3_4
        refine lv_iinc (v := x3_4) (lv' := [(3, .int x3_4), (0, .ref th), (1, .ref qh), (2, .int b2)]) hx hb dX3_findDistances_32 hl (k := 3) rfl (by rw [ex3_4]; rfl) (by decide) rfl (fun ls hl => ?_)
        refine lv_goto (tgt := 2) hx hb dX3_findDistances_35 (by decide) ?_
        exact ih x3_4 (upd t_distance v3.toNatClampNeg 1000) H locs ls hv hP hD hS (lv_sub hl [1, 2, 3, 0] rfl)
      · have hv := hv.2 c9
        refine lv_iconst (v := 0) hx hb dX3_findDistances_24 (by decide) ?_
        refine lv_goto (tgt := 31) hx hb dX3_findDistances_25 (by decide) ?_
        obtain ⟨hi_5, hv⟩ := hv
        refine va_iast hx hb hK hP hD hS 3 0 rfl rfl hi_5 dX3_findDistances_31 (fun H locs hP hD hS => ?_)
        have hP : va_P D vwCl [(th, .inr (3, [.ref t0, .ref t1, .ref t2, .ref t3])), (t0, .inl (cI, 6, .inl t_here)), (t1, .inl (cI, 30, .inl t_arriving)), (t2, .inl (cI, 6, .inl (upd t_distance v3.toNatClampNeg 0))), (t3, .inl (cI, 6, .inl t_firstPassage)), (qh, .inr (2, [.ref q0, .ref q1, .int q_safeRooms, .int q_passages, .ref q4, .ref q5, .ref q6, .ref q7, .ref q8])), (q0, .inl (cI, 6, .inl q_people)), (q1, .inl (cI, 6, .inl q_area)), (q4, .inl (cI, 10, .inl q_from)), (q5, .inl (cI, 10, .inl q_to)), (q6, .inl (cI, 10, .inl q_width)), (q7, .inl (cI, 10, .inl q_length)), (q8, .inl (cI, 10, .inl q_shut))] H := hP
        have hD : va_D A [(th, .inr (3, [.ref t0, .ref t1, .ref t2, .ref t3])), (t0, .inl (cI, 6, .inl t_here)), (t1, .inl (cI, 30, .inl t_arriving)), (t2, .inl (cI, 6, .inl (upd t_distance v3.toNatClampNeg 0))), (t3, .inl (cI, 6, .inl t_firstPassage)), (qh, .inr (2, [.ref q0, .ref q1, .int q_safeRooms, .int q_passages, .ref q4, .ref q5, .ref q6, .ref q7, .ref q8])), (q0, .inl (cI, 6, .inl q_people)), (q1, .inl (cI, 6, .inl q_area)), (q4, .inl (cI, 10, .inl q_from)), (q5, .inl (cI, 10, .inl q_to)), (q6, .inl (cI, 10, .inl q_width)), (q7, .inl (cI, 10, .inl q_length)), (q8, .inl (cI, 10, .inl q_shut))] := hD
        obtain ⟨x3_6, ex3_6⟩ : ∃ y : Int32, y = v3 + 1 := ⟨_, rfl⟩
        have hv := hv x3_6 ex3_6
        refine lv_iinc (v := x3_6) (lv' := [(3, .int x3_6), (0, .ref th), (1, .ref qh), (2, .int b2)]) hx hb dX3_findDistances_32 hl (k := 3) rfl (by rw [ex3_6]; rfl) (by decide) rfl (fun ls hl => ?_)
        refine lv_goto (tgt := 2) hx hb dX3_findDistances_35 (by decide) ?_
        exact ih x3_6 (upd t_distance v3.toNatClampNeg 0) H locs ls hv hP hD hS (lv_sub hl [1, 2, 3, 0] rfl)

def vc_X3_findDistances_L59 (K : Int32 → (Nat → Int32) → Prop) (b2 : Int32) (q_passages : Int32) (q_from : (Nat → Int32)) (q_to : (Nat → Int32)) (q_length : (Nat → Int32)) (q_shut : (Nat → Int32)) : Nat → Int32 → Int32 → (Nat → Int32) → Prop
  | 0, _, _, _ => False
  | n + 1, v3, v5, t_distance =>
    ((q_passages ≤ v5 → K v3 t_distance) ∧ (¬ q_passages ≤ v5 → (vc_X3_distanceThrough v5 b2 t_distance q_to q_length q_shut (fun (r_9 : Int32) (u_8 : Unit) => (vp_in v5 10 ∧ (vp_in (q_from v5.toNatClampNeg) 6 ∧ (((t_distance ((q_from v5.toNatClampNeg)).toNatClampNeg) ≤ r_9 → (∀ x5_12 : Int32, x5_12 = v5 + 1 → vc_X3_findDistances_L59 K b2 q_passages q_from q_to q_length q_shut n v3 x5_12 t_distance)) ∧ (¬ (t_distance ((q_from v5.toNatClampNeg)).toNatClampNeg) ≤ r_9 → (vp_in v5 10 ∧ (vp_in (q_from v5.toNatClampNeg) 6 ∧ (∀ x5_15 : Int32, x5_15 = v5 + 1 → vc_X3_findDistances_L59 K b2 q_passages q_from q_to q_length q_shut n 1 x5_15 (upd t_distance ((q_from v5.toNatClampNeg)).toNatClampNeg r_9))))))))))))

set_option maxHeartbeats 4000000 in
set_option maxRecDepth 100000 in
theorem w_X3_findDistances_L59 {p : Program} {l : Launch} {e : Env} {s : State} {m : MethodId} {args : Array Value} {below : List Frame} {meth : Method} {c : Code} {D : va_G} {cI cZ : ClassId} {A : Nat → Prop} {Q : State → Prop} (th t0 t1 t2 t3 qh q0 q1 q4 q5 q6 q7 q8 : Nat) (b2 : Int32) (b4 : Int32) (t_here : (Nat → Int32)) (t_arriving : (Nat → Int32)) (t_firstPassage : (Nat → Int32)) (q_people : (Nat → Int32)) (q_area : (Nat → Int32)) (q_safeRooms : Int32) (q_passages : Int32) (q_from : (Nat → Int32)) (q_to : (Nat → Int32)) (q_width : (Nat → Int32)) (q_length : (Nat → Int32)) (q_shut : (Nat → Int32)) (C : lw_Cx D cI cZ p s m args meth c cX3_findDistances 7 none RX3 A) (K : Int32 → (Nat → Int32) → Prop) (hKx : ∀ (k3 : Int32) (k_t_distance : (Nat → Int32)) (H : Heap) (locs : List Loc) (ls : Array Slot), K k3 k_t_distance → va_P D vwCl [(th, .inr (3, [.ref t0, .ref t1, .ref t2, .ref t3])), (t0, .inl (cI, 6, .inl t_here)), (t1, .inl (cI, 30, .inl t_arriving)), (t2, .inl (cI, 6, .inl k_t_distance)), (t3, .inl (cI, 6, .inl t_firstPassage)), (qh, .inr (2, [.ref q0, .ref q1, .int q_safeRooms, .int q_passages, .ref q4, .ref q5, .ref q6, .ref q7, .ref q8])), (q0, .inl (cI, 6, .inl q_people)), (q1, .inl (cI, 6, .inl q_area)), (q4, .inl (cI, 10, .inl q_from)), (q5, .inl (cI, 10, .inl q_to)), (q6, .inl (cI, 10, .inl q_width)), (q7, .inl (cI, 10, .inl q_length)), (q8, .inl (cI, 10, .inl q_shut))] H → va_D A [(th, .inr (3, [.ref t0, .ref t1, .ref t2, .ref t3])), (t0, .inl (cI, 6, .inl t_here)), (t1, .inl (cI, 30, .inl t_arriving)), (t2, .inl (cI, 6, .inl k_t_distance)), (t3, .inl (cI, 6, .inl t_firstPassage)), (qh, .inr (2, [.ref q0, .ref q1, .int q_safeRooms, .int q_passages, .ref q4, .ref q5, .ref q6, .ref q7, .ref q8])), (q0, .inl (cI, 6, .inl q_people)), (q1, .inl (cI, 6, .inl q_area)), (q4, .inl (cI, 10, .inl q_from)), (q5, .inl (cI, 10, .inl q_to)), (q6, .inl (cI, 10, .inl q_width)), (q7, .inl (cI, 10, .inl q_length)), (q8, .inl (cI, 10, .inl q_shut))] → va_S A s.heap H locs → lv_has ls 7 [(0, .ref th), (1, .ref qh), (2, .int b2), (3, .int k3), (4, .int b4)] → W p l e ({ frames := 1, cells := 0, slots := 0, locals := 24 } : Room) s m args below meth c H locs 0 0 Q (F0 m 117 ls [])) :
    ∀ (n : Nat) (v3 : Int32) (v5 : Int32) (t_distance : (Nat → Int32)) (H : Heap) (locs : List Loc) (ls : Array Slot), vc_X3_findDistances_L59 K b2 q_passages q_from q_to q_length q_shut n v3 v5 t_distance → va_P D vwCl [(th, .inr (3, [.ref t0, .ref t1, .ref t2, .ref t3])), (t0, .inl (cI, 6, .inl t_here)), (t1, .inl (cI, 30, .inl t_arriving)), (t2, .inl (cI, 6, .inl t_distance)), (t3, .inl (cI, 6, .inl t_firstPassage)), (qh, .inr (2, [.ref q0, .ref q1, .int q_safeRooms, .int q_passages, .ref q4, .ref q5, .ref q6, .ref q7, .ref q8])), (q0, .inl (cI, 6, .inl q_people)), (q1, .inl (cI, 6, .inl q_area)), (q4, .inl (cI, 10, .inl q_from)), (q5, .inl (cI, 10, .inl q_to)), (q6, .inl (cI, 10, .inl q_width)), (q7, .inl (cI, 10, .inl q_length)), (q8, .inl (cI, 10, .inl q_shut))] H → va_D A [(th, .inr (3, [.ref t0, .ref t1, .ref t2, .ref t3])), (t0, .inl (cI, 6, .inl t_here)), (t1, .inl (cI, 30, .inl t_arriving)), (t2, .inl (cI, 6, .inl t_distance)), (t3, .inl (cI, 6, .inl t_firstPassage)), (qh, .inr (2, [.ref q0, .ref q1, .int q_safeRooms, .int q_passages, .ref q4, .ref q5, .ref q6, .ref q7, .ref q8])), (q0, .inl (cI, 6, .inl q_people)), (q1, .inl (cI, 6, .inl q_area)), (q4, .inl (cI, 10, .inl q_from)), (q5, .inl (cI, 10, .inl q_to)), (q6, .inl (cI, 10, .inl q_width)), (q7, .inl (cI, 10, .inl q_length)), (q8, .inl (cI, 10, .inl q_shut))] → va_S A s.heap H locs → lv_has ls 7 [(0, .ref th), (1, .ref qh), (2, .int b2), (3, .int v3), (4, .int b4), (5, .int v5)] → W p l e ({ frames := 1, cells := 0, slots := 0, locals := 24 } : Room) s m args below meth c H locs 0 0 Q (F0 m 59 ls []) := by
  obtain ⟨hx, hb, hr, hml, hown, hts, hlocks, hN, hK, hA⟩ := id C
  intro n
  induction n with
  | zero =>
    intro v3 v5 t_distance H locs ls hv
    exact False.elim hv
  | succ n ih =>
    intro v3 v5 t_distance H locs ls hv hP hD hS hl
    rw [vc_X3_findDistances_L59] at hv
    refine lv_iload hx hb dX3_findDistances_59 (lv_at hl 5 rfl) ?_
    refine lv_aload_n hx hb dX3_findDistances_61 rfl (lv_at hl 1 rfl) ?_
    refine va_getN (D := D) (ci := 2) (v := .int q_passages) (C := RX2) (T := TX2) (N := 9) hx hb hts iX2 hown hK hP 5 rfl rfl 3 (by decide) (va_Nw.use rfl (hN _ kw_110)) (fun _ h9 => h9) rfl dX3_findDistances_62 ?_
    refine lv_icmp_ge (tgt := 117) hx hb dX3_findDistances_65 (by decide) (fun c9 => ?_) (fun c9 => ?_)
    · have hv := hv.1 c9
      exact hKx v3 t_distance H locs ls hv hP hD hS (lv_sub hl [0, 1, 2, 3, 4] rfl)
    · have hv := hv.2 c9
      refine lv_aload_n hx hb dX3_findDistances_68 rfl (lv_at hl 0 rfl) ?_
      refine lv_aload_n hx hb dX3_findDistances_69 rfl (lv_at hl 1 rfl) ?_
      refine lv_iload hx hb dX3_findDistances_70 (lv_at hl 5 rfl) ?_
      refine lv_iload_n hx hb dX3_findDistances_72 rfl (lv_at hl 2 rfl) ?_
      refine lw_calli (wr := []) C (lw_runV (own := RX3) (n := 3) C hP hD [0, 1, 2, 3, 4, 5, 6, 7, 8, 9, 10, 11, 12] rfl rfl 3 rfl rfl rfl (m_X3_distanceThrough l D cI cZ th t0 t1 t2 t3 qh q0 q1 q4 q5 q6 q7 q8 v5 b2 t_here t_arriving t_distance t_firstPassage q_people q_area q_safeRooms q_passages q_from q_to q_width q_length q_shut H.size hv) kw_507 kw_504 kw_506 kw_32 kw_73 (by decide +kernel) rfl ⟨rfl, rfl, Nat.le_of_ble_eq_true rfl, Nat.le_of_ble_eq_true rfl, Nat.le_of_ble_eq_true rfl, Nat.le_of_ble_eq_true rfl⟩ hl.1 rfl (Nat.le_of_ble_eq_true rfl) dX3_findDistances_73) hP hD hS [0, 1, 2, 3, 4, 5, 6, 7, 8, 9, 10, 11, 12] [] rfl rfl rfl (by decide +kernel) (fun r_9 u_8 H locs hv hP hD hS => ?_)
      have hP : va_P D vwCl [(th, .inr (3, [.ref t0, .ref t1, .ref t2, .ref t3])), (t0, .inl (cI, 6, .inl t_here)), (t1, .inl (cI, 30, .inl t_arriving)), (t2, .inl (cI, 6, .inl t_distance)), (t3, .inl (cI, 6, .inl t_firstPassage)), (qh, .inr (2, [.ref q0, .ref q1, .int q_safeRooms, .int q_passages, .ref q4, .ref q5, .ref q6, .ref q7, .ref q8])), (q0, .inl (cI, 6, .inl q_people)), (q1, .inl (cI, 6, .inl q_area)), (q4, .inl (cI, 10, .inl q_from)), (q5, .inl (cI, 10, .inl q_to)), (q6, .inl (cI, 10, .inl q_width)), (q7, .inl (cI, 10, .inl q_length)), (q8, .inl (cI, 10, .inl q_shut))] H := hP
      have hD : va_D A [(th, .inr (3, [.ref t0, .ref t1, .ref t2, .ref t3])), (t0, .inl (cI, 6, .inl t_here)), (t1, .inl (cI, 30, .inl t_arriving)), (t2, .inl (cI, 6, .inl t_distance)), (t3, .inl (cI, 6, .inl t_firstPassage)), (qh, .inr (2, [.ref q0, .ref q1, .int q_safeRooms, .int q_passages, .ref q4, .ref q5, .ref q6, .ref q7, .ref q8])), (q0, .inl (cI, 6, .inl q_people)), (q1, .inl (cI, 6, .inl q_area)), (q4, .inl (cI, 10, .inl q_from)), (q5, .inl (cI, 10, .inl q_to)), (q6, .inl (cI, 10, .inl q_width)), (q7, .inl (cI, 10, .inl q_length)), (q8, .inl (cI, 10, .inl q_shut))] := hD
      refine lv_istore (lv' := [(6, .int r_9), (0, .ref th), (1, .ref qh), (2, .int b2), (3, .int v3), (4, .int b4), (5, .int v5)]) hx hb dX3_findDistances_76 hl (by decide) rfl (fun ls hl => ?_)
      refine lv_iload hx hb dX3_findDistances_78 (lv_at hl 0 rfl) ?_
      refine lv_aload_n hx hb dX3_findDistances_80 rfl (lv_at hl 1 rfl) ?_
      refine va_get (D := D) (ci := 3) (v := .ref t2) (C := RX3) (T := TX3) (N := 4) hx hb hts iX3 hown hK hP 0 rfl rfl 2 (by decide) (hts _ kw_232) (fun _ h9 => h9) rfl dX3_findDistances_81 ?_
      refine lv_aload_n hx hb dX3_findDistances_84 rfl (lv_at hl 2 rfl) ?_
      refine va_getN (D := D) (ci := 2) (v := .ref q4) (C := RX2) (T := TX2) (N := 9) hx hb hts iX2 hown hK hP 5 rfl rfl 4 (by decide) (va_Nw.use rfl (hN _ kw_113)) (fun _ h9 => h9) rfl dX3_findDistances_85 ?_
      refine lv_iload hx hb dX3_findDistances_88 (lv_at hl 6 rfl) ?_
      obtain ⟨hi_10, hv⟩ := hv
      refine va_iald hx hb hK hP 8 0 rfl rfl hi_10 dX3_findDistances_90 ?_
      obtain ⟨hi_11, hv⟩ := hv
      refine va_iald hx hb hK hP 3 0 rfl rfl hi_11 dX3_findDistances_91 ?_
      refine lv_icmp_ge (tgt := 111) hx hb dX3_findDistances_92 (by decide) (fun c9 => ?_) (fun c9 => ?_)
      · have hv := hv.1 c9
        obtain ⟨x5_12, ex5_12⟩ : ∃ y : Int32, y = v5 + 1 := ⟨_, rfl⟩
        have hv := hv x5_12 ex5_12
        refine lv_iinc (v := x5_12) (lv' := [(5, .int x5_12), (6, .int r_9), (0, .ref th), (1, .ref qh), (2, .int b2), (3, .int v3), (4, .int b4)]) hx hb dX3_findDistances_111 hl (k := 6) rfl (by rw [ex5_12]; rfl) (by decide) rfl (fun ls hl => ?_)
        refine lv_goto (tgt := 59) hx hb dX3_findDistances_114 (by decide) ?_
        exact ih v3 x5_12 t_distance H locs ls hv hP hD hS (lv_sub hl [2, 3, 4, 5, 6, 0] rfl)
      · have hv := hv.2 c9
        refine lv_aload_n hx hb dX3_findDistances_95 rfl (lv_at hl 1 rfl) ?_
        refine va_get (D := D) (ci := 3) (v := .ref t2) (C := RX3) (T := TX3) (N := 4) hx hb hts iX3 hown hK hP 0 rfl rfl 2 (by decide) (hts _ kw_232) (fun _ h9 => h9) rfl dX3_findDistances_96 ?_
        refine lv_aload_n hx hb dX3_findDistances_99 rfl (lv_at hl 2 rfl) ?_
        refine va_getN (D := D) (ci := 2) (v := .ref q4) (C := RX2) (T := TX2) (N := 9) hx hb hts iX2 hown hK hP 5 rfl rfl 4 (by decide) (va_Nw.use rfl (hN _ kw_113)) (fun _ h9 => h9) rfl dX3_findDistances_100 ?_
        refine lv_iload hx hb dX3_findDistances_103 (lv_at hl 6 rfl) ?_
        obtain ⟨hi_13, hv⟩ := hv
        refine va_iald hx hb hK hP 8 0 rfl rfl hi_13 dX3_findDistances_105 ?_
        refine lv_iload hx hb dX3_findDistances_106 (lv_at hl 0 rfl) ?_
        obtain ⟨hi_14, hv⟩ := hv
        refine va_iast hx hb hK hP hD hS 3 0 rfl rfl hi_14 dX3_findDistances_108 (fun H locs hP hD hS => ?_)
        have hP : va_P D vwCl [(th, .inr (3, [.ref t0, .ref t1, .ref t2, .ref t3])), (t0, .inl (cI, 6, .inl t_here)), (t1, .inl (cI, 30, .inl t_arriving)), (t2, .inl (cI, 6, .inl (upd t_distance ((q_from v5.toNatClampNeg)).toNatClampNeg r_9))), (t3, .inl (cI, 6, .inl t_firstPassage)), (qh, .inr (2, [.ref q0, .ref q1, .int q_safeRooms, .int q_passages, .ref q4, .ref q5, .ref q6, .ref q7, .ref q8])), (q0, .inl (cI, 6, .inl q_people)), (q1, .inl (cI, 6, .inl q_area)), (q4, .inl (cI, 10, .inl q_from)), (q5, .inl (cI, 10, .inl q_to)), (q6, .inl (cI, 10, .inl q_width)), (q7, .inl (cI, 10, .inl q_length)), (q8, .inl (cI, 10, .inl q_shut))] H := hP
        have hD : va_D A [(th, .inr (3, [.ref t0, .ref t1, .ref t2, .ref t3])), (t0, .inl (cI, 6, .inl t_here)), (t1, .inl (cI, 30, .inl t_arriving)), (t2, .inl (cI, 6, .inl (upd t_distance ((q_from v5.toNatClampNeg)).toNatClampNeg r_9))), (t3, .inl (cI, 6, .inl t_firstPassage)), (qh, .inr (2, [.ref q0, .ref q1, .int q_safeRooms, .int q_passages, .ref q4, .ref q5, .ref q6, .ref q7, .ref q8])), (q0, .inl (cI, 6, .inl q_people)), (q1, .inl (cI, 6, .inl q_area)), (q4, .inl (cI, 10, .inl q_from)), (q5, .inl (cI, 10, .inl q_to)), (q6, .inl (cI, 10, .inl q_width)), (q7, .inl (cI, 10, .inl q_length)), (q8, .inl (cI, 10, .inl q_shut))] := hD
        refine lv_iconst (v := 1) hx hb dX3_findDistances_109 (by decide) ?_
        refine lv_istore_n (lv' := [(3, .int 1), (6, .int r_9), (0, .ref th), (1, .ref qh), (2, .int b2), (4, .int b4), (5, .int v5)]) hx hb dX3_findDistances_110 rfl hl (by decide) rfl (fun ls hl => ?_)
        obtain ⟨x5_15, ex5_15⟩ : ∃ y : Int32, y = v5 + 1 := ⟨_, rfl⟩
        have hv := hv x5_15 ex5_15
        refine lv_iinc (v := x5_15) (lv' := [(5, .int x5_15), (3, .int 1), (6, .int r_9), (0, .ref th), (1, .ref qh), (2, .int b2), (4, .int b4)]) hx hb dX3_findDistances_111 hl (k := 6) rfl (by rw [ex5_15]; rfl) (by decide) rfl (fun ls hl => ?_)
        refine lv_goto (tgt := 59) hx hb dX3_findDistances_114 (by decide) ?_
        exact ih 1 x5_15 (upd t_distance ((q_from v5.toNatClampNeg)).toNatClampNeg r_9) H locs ls hv hP hD hS (lv_sub hl [3, 4, 5, 1, 6, 0] rfl)

def vc_X3_findDistances_L43 (K : (Nat → Int32) → Prop) (b2 : Int32) (q_passages : Int32) (q_from : (Nat → Int32)) (q_to : (Nat → Int32)) (q_length : (Nat → Int32)) (q_shut : (Nat → Int32)) : Nat → Int32 → Int32 → (Nat → Int32) → Prop
  | 0, _, _, _ => False
  | n + 1, v3, v4, t_distance =>
    ((v3 = 0 → K t_distance) ∧ (¬ v3 = 0 → ((6 ≤ v4 → K t_distance) ∧ (¬ 6 ≤ v4 → (∃ n_11, vc_X3_findDistances_L59 (fun k3_8 t_distance_9 => (∀ x4_10 : Int32, x4_10 = v4 + 1 → vc_X3_findDistances_L43 K b2 q_passages q_from q_to q_length q_shut n k3_8 x4_10 t_distance_9))  b2 q_passages q_from q_to q_length q_shut n_11 0 0 t_distance)))))

set_option maxHeartbeats 4000000 in
set_option maxRecDepth 100000 in
theorem w_X3_findDistances_L43 {p : Program} {l : Launch} {e : Env} {s : State} {m : MethodId} {args : Array Value} {below : List Frame} {meth : Method} {c : Code} {D : va_G} {cI cZ : ClassId} {A : Nat → Prop} {Q : State → Prop} (th t0 t1 t2 t3 qh q0 q1 q4 q5 q6 q7 q8 : Nat) (b2 : Int32) (t_here : (Nat → Int32)) (t_arriving : (Nat → Int32)) (t_firstPassage : (Nat → Int32)) (q_people : (Nat → Int32)) (q_area : (Nat → Int32)) (q_safeRooms : Int32) (q_passages : Int32) (q_from : (Nat → Int32)) (q_to : (Nat → Int32)) (q_width : (Nat → Int32)) (q_length : (Nat → Int32)) (q_shut : (Nat → Int32)) (C : lw_Cx D cI cZ p s m args meth c cX3_findDistances 7 none RX3 A) (K : (Nat → Int32) → Prop) (hKx : ∀ (k_t_distance : (Nat → Int32)) (H : Heap) (locs : List Loc) (ls : Array Slot), K k_t_distance → va_P D vwCl [(th, .inr (3, [.ref t0, .ref t1, .ref t2, .ref t3])), (t0, .inl (cI, 6, .inl t_here)), (t1, .inl (cI, 30, .inl t_arriving)), (t2, .inl (cI, 6, .inl k_t_distance)), (t3, .inl (cI, 6, .inl t_firstPassage)), (qh, .inr (2, [.ref q0, .ref q1, .int q_safeRooms, .int q_passages, .ref q4, .ref q5, .ref q6, .ref q7, .ref q8])), (q0, .inl (cI, 6, .inl q_people)), (q1, .inl (cI, 6, .inl q_area)), (q4, .inl (cI, 10, .inl q_from)), (q5, .inl (cI, 10, .inl q_to)), (q6, .inl (cI, 10, .inl q_width)), (q7, .inl (cI, 10, .inl q_length)), (q8, .inl (cI, 10, .inl q_shut))] H → va_D A [(th, .inr (3, [.ref t0, .ref t1, .ref t2, .ref t3])), (t0, .inl (cI, 6, .inl t_here)), (t1, .inl (cI, 30, .inl t_arriving)), (t2, .inl (cI, 6, .inl k_t_distance)), (t3, .inl (cI, 6, .inl t_firstPassage)), (qh, .inr (2, [.ref q0, .ref q1, .int q_safeRooms, .int q_passages, .ref q4, .ref q5, .ref q6, .ref q7, .ref q8])), (q0, .inl (cI, 6, .inl q_people)), (q1, .inl (cI, 6, .inl q_area)), (q4, .inl (cI, 10, .inl q_from)), (q5, .inl (cI, 10, .inl q_to)), (q6, .inl (cI, 10, .inl q_width)), (q7, .inl (cI, 10, .inl q_length)), (q8, .inl (cI, 10, .inl q_shut))] → va_S A s.heap H locs → lv_has ls 7 [] → W p l e ({ frames := 1, cells := 0, slots := 0, locals := 24 } : Room) s m args below meth c H locs 0 0 Q (F0 m 123 ls [])) :
    ∀ (n : Nat) (v3 : Int32) (v4 : Int32) (t_distance : (Nat → Int32)) (H : Heap) (locs : List Loc) (ls : Array Slot), vc_X3_findDistances_L43 K b2 q_passages q_from q_to q_length q_shut n v3 v4 t_distance → va_P D vwCl [(th, .inr (3, [.ref t0, .ref t1, .ref t2, .ref t3])), (t0, .inl (cI, 6, .inl t_here)), (t1, .inl (cI, 30, .inl t_arriving)), (t2, .inl (cI, 6, .inl t_distance)), (t3, .inl (cI, 6, .inl t_firstPassage)), (qh, .inr (2, [.ref q0, .ref q1, .int q_safeRooms, .int q_passages, .ref q4, .ref q5, .ref q6, .ref q7, .ref q8])), (q0, .inl (cI, 6, .inl q_people)), (q1, .inl (cI, 6, .inl q_area)), (q4, .inl (cI, 10, .inl q_from)), (q5, .inl (cI, 10, .inl q_to)), (q6, .inl (cI, 10, .inl q_width)), (q7, .inl (cI, 10, .inl q_length)), (q8, .inl (cI, 10, .inl q_shut))] H → va_D A [(th, .inr (3, [.ref t0, .ref t1, .ref t2, .ref t3])), (t0, .inl (cI, 6, .inl t_here)), (t1, .inl (cI, 30, .inl t_arriving)), (t2, .inl (cI, 6, .inl t_distance)), (t3, .inl (cI, 6, .inl t_firstPassage)), (qh, .inr (2, [.ref q0, .ref q1, .int q_safeRooms, .int q_passages, .ref q4, .ref q5, .ref q6, .ref q7, .ref q8])), (q0, .inl (cI, 6, .inl q_people)), (q1, .inl (cI, 6, .inl q_area)), (q4, .inl (cI, 10, .inl q_from)), (q5, .inl (cI, 10, .inl q_to)), (q6, .inl (cI, 10, .inl q_width)), (q7, .inl (cI, 10, .inl q_length)), (q8, .inl (cI, 10, .inl q_shut))] → va_S A s.heap H locs → lv_has ls 7 [(0, .ref th), (1, .ref qh), (2, .int b2), (3, .int v3), (4, .int v4)] → W p l e ({ frames := 1, cells := 0, slots := 0, locals := 24 } : Room) s m args below meth c H locs 0 0 Q (F0 m 43 ls []) := by
  obtain ⟨hx, hb, hr, hml, hown, hts, hlocks, hN, hK, hA⟩ := id C
  intro n
  induction n with
  | zero =>
    intro v3 v4 t_distance H locs ls hv
    exact False.elim hv
  | succ n ih =>
    intro v3 v4 t_distance H locs ls hv hP hD hS hl
    rw [vc_X3_findDistances_L43] at hv
    refine lv_iload_n hx hb dX3_findDistances_43 rfl (lv_at hl 3 rfl) ?_
    refine lv_if_eq (tgt := 123) hx hb dX3_findDistances_44 (by decide) (fun c9 => ?_) (fun c9 => ?_)
    · have hv := hv.1 c9
      exact hKx t_distance H locs ls hv hP hD hS (lv_sub hl [] rfl)
    · have hv := hv.2 c9
      refine lv_iload hx hb dX3_findDistances_47 (lv_at hl 4 rfl) ?_
      refine lv_bipush (v := 6) hx hb dX3_findDistances_49 (by decide) ?_
      refine lv_icmp_ge (tgt := 123) hx hb dX3_findDistances_51 (by decide) (fun c9 => ?_) (fun c9 => ?_)
      · have hv := hv.1 c9
        exact hKx t_distance H locs ls hv hP hD hS (lv_sub hl [] rfl)
      · have hv := hv.2 c9
        refine lv_iconst (v := 0) hx hb dX3_findDistances_54 (by decide) ?_
        refine lv_istore_n (lv' := [(3, .int 0), (0, .ref th), (1, .ref qh), (2, .int b2), (4, .int v4)]) hx hb dX3_findDistances_55 rfl hl (by decide) rfl (fun ls hl => ?_)
        refine lv_iconst (v := 0) hx hb dX3_findDistances_56 (by decide) ?_
        refine lv_istore (lv' := [(5, .int 0), (3, .int 0), (0, .ref th), (1, .ref qh), (2, .int b2), (4, .int v4)]) hx hb dX3_findDistances_57 hl (by decide) rfl (fun ls hl => ?_)
        obtain ⟨n_11, hv⟩ := hv
        refine w_X3_findDistances_L59 th t0 t1 t2 t3 qh q0 q1 q4 q5 q6 q7 q8 b2 v4 t_here t_arriving t_firstPassage q_people q_area q_safeRooms q_passages q_from q_to q_width q_length q_shut C _ (fun k3_8 t_distance_9 H locs ls hv hP hD hS hl => ?_) n_11 0 0 t_distance H locs ls hv hP hD hS (lv_sub hl [2, 3, 4, 1, 5, 0] rfl)
        obtain ⟨x4_10, ex4_10⟩ : ∃ y : Int32, y = v4 + 1 := ⟨_, rfl⟩
        have hv := hv x4_10 ex4_10
        refine lv_iinc (v := x4_10) (lv' := [(4, .int x4_10), (0, .ref th), (1, .ref qh), (2, .int b2), (3, .int k3_8)]) hx hb dX3_findDistances_117 hl (k := 4) rfl (by rw [ex4_10]; rfl) (by decide) rfl (fun ls hl => ?_)
        refine lv_goto (tgt := 43) hx hb dX3_findDistances_120 (by decide) ?_
        exact ih k3_8 x4_10 t_distance_9 H locs ls hv hP hD hS (lv_sub hl [1, 2, 3, 4, 0] rfl)

def vc_X3_findDistances (a2 : Int32) (t_distance : (Nat → Int32)) (q_safeRooms : Int32) (q_passages : Int32) (q_from : (Nat → Int32)) (q_to : (Nat → Int32)) (q_length : (Nat → Int32)) (q_shut : (Nat → Int32)) (post : (Nat → Int32) → Prop) : Prop :=
  (∃ n_14, vc_X3_findDistances_L2 (fun t_distance_7 => (∃ n_13, vc_X3_findDistances_L43 (fun t_distance_12 => post t_distance_12)  a2 q_passages q_from q_to q_length q_shut n_13 1 0 t_distance_7))  q_safeRooms n_14 0 t_distance)

set_option maxHeartbeats 4000000 in
set_option maxRecDepth 100000 in
theorem m_X3_findDistances (l : Launch) (D : va_G) (cI cZ : ClassId) (th t0 t1 t2 t3 qh q0 q1 q4 q5 q6 q7 q8 : Nat) (a2 : Int32) (t_here : (Nat → Int32)) (t_arriving : (Nat → Int32)) (t_distance : (Nat → Int32)) (t_firstPassage : (Nat → Int32)) (q_people : (Nat → Int32)) (q_area : (Nat → Int32)) (q_safeRooms : Int32) (q_passages : Int32) (q_from : (Nat → Int32)) (q_to : (Nat → Int32)) (q_width : (Nat → Int32)) (q_length : (Nat → Int32)) (q_shut : (Nat → Int32)) (sz : Nat) {post : (Nat → Int32) → Prop} (hv : vc_X3_findDistances a2 t_distance q_safeRooms q_passages q_from q_to q_length q_shut post) :
    Met l yX3_findDistances (Cond.code yX3_findDistances cX3_findDistances 7 none :: lw_good) ({ frames := 1, cells := 0, slots := 0, locals := 24 } : Room) (va_Pc [.ref th, .ref qh, .int a2] (lw_B D cI cZ [(th, .inr (3, [.ref t0, .ref t1, .ref t2, .ref t3])), (t0, .inl (cI, 6, .inl t_here)), (t1, .inl (cI, 30, .inl t_arriving)), (t2, .inl (cI, 6, .inl t_distance)), (t3, .inl (cI, 6, .inl t_firstPassage)), (qh, .inr (2, [.ref q0, .ref q1, .int q_safeRooms, .int q_passages, .ref q4, .ref q5, .ref q6, .ref q7, .ref q8])), (q0, .inl (cI, 6, .inl q_people)), (q1, .inl (cI, 6, .inl q_area)), (q4, .inl (cI, 10, .inl q_from)), (q5, .inl (cI, 10, .inl q_to)), (q6, .inl (cI, 10, .inl q_width)), (q7, .inl (cI, 10, .inl q_length)), (q8, .inl (cI, 10, .inl q_shut))] sz)) (lw_Qv D cI cZ (va_A [(th, .inr (3, [.ref t0, .ref t1, .ref t2, .ref t3])), (t0, .inl (cI, 6, .inl t_here)), (t1, .inl (cI, 30, .inl t_arriving)), (t2, .inl (cI, 6, .inl t_distance)), (t3, .inl (cI, 6, .inl t_firstPassage)), (qh, .inr (2, [.ref q0, .ref q1, .int q_safeRooms, .int q_passages, .ref q4, .ref q5, .ref q6, .ref q7, .ref q8])), (q0, .inl (cI, 6, .inl q_people)), (q1, .inl (cI, 6, .inl q_area)), (q4, .inl (cI, 10, .inl q_from)), (q5, .inl (cI, 10, .inl q_to)), (q6, .inl (cI, 10, .inl q_width)), (q7, .inl (cI, 10, .inl q_length)), (q8, .inl (cI, 10, .inl q_shut))] sz) (fun u : (Nat → Int32) => [(th, .inr (3, [.ref t0, .ref t1, .ref t2, .ref t3])), (t0, .inl (cI, 6, .inl t_here)), (t1, .inl (cI, 30, .inl t_arriving)), (t2, .inl (cI, 6, .inl u)), (t3, .inl (cI, 6, .inl t_firstPassage)), (qh, .inr (2, [.ref q0, .ref q1, .int q_safeRooms, .int q_passages, .ref q4, .ref q5, .ref q6, .ref q7, .ref q8])), (q0, .inl (cI, 6, .inl q_people)), (q1, .inl (cI, 6, .inl q_area)), (q4, .inl (cI, 10, .inl q_from)), (q5, .inl (cI, 10, .inl q_to)), (q6, .inl (cI, 10, .inl q_width)), (q7, .inl (cI, 10, .inl q_length)), (q8, .inl (cI, 10, .inl q_shut))]) post) 0 0 (va_A [(th, .inr (3, [.ref t0, .ref t1, .ref t2, .ref t3])), (t0, .inl (cI, 6, .inl t_here)), (t1, .inl (cI, 30, .inl t_arriving)), (t2, .inl (cI, 6, .inl t_distance)), (t3, .inl (cI, 6, .inl t_firstPassage)), (qh, .inr (2, [.ref q0, .ref q1, .int q_safeRooms, .int q_passages, .ref q4, .ref q5, .ref q6, .ref q7, .ref q8])), (q0, .inl (cI, 6, .inl q_people)), (q1, .inl (cI, 6, .inl q_area)), (q4, .inl (cI, 10, .inl q_from)), (q5, .inl (cI, 10, .inl q_to)), (q6, .inl (cI, 10, .inl q_width)), (q7, .inl (cI, 10, .inl q_length)), (q8, .inl (cI, 10, .inl q_shut))] sz) := by
  refine lw_met (Q := fun A => lw_Qv D cI cZ A (fun u : (Nat → Int32) => [(th, .inr (3, [.ref t0, .ref t1, .ref t2, .ref t3])), (t0, .inl (cI, 6, .inl t_here)), (t1, .inl (cI, 30, .inl t_arriving)), (t2, .inl (cI, 6, .inl u)), (t3, .inl (cI, 6, .inl t_firstPassage)), (qh, .inr (2, [.ref q0, .ref q1, .int q_safeRooms, .int q_passages, .ref q4, .ref q5, .ref q6, .ref q7, .ref q8])), (q0, .inl (cI, 6, .inl q_people)), (q1, .inl (cI, 6, .inl q_area)), (q4, .inl (cI, 10, .inl q_from)), (q5, .inl (cI, 10, .inl q_to)), (q6, .inl (cI, 10, .inl q_width)), (q7, .inl (cI, 10, .inl q_length)), (q8, .inl (cI, 10, .inl q_shut))]) post) (by decide) (Nat.le_of_ble_eq_true rfl) ?_
  intro p e s m below meth c A C hnm hP hD hS ls hl
  have C : lw_Cx D cI cZ p s m _ meth c cX3_findDistances 7 none RX3 A := C
  obtain ⟨hx, hb, hr, hml, hown, hts, hlocks, hN, hK, hA⟩ := id C
  have hl : lv_has ls 7 [(0, .ref th), (1, .ref qh), (2, .int a2)] := hl
  obtain ⟨H, hH⟩ : ∃ H, H = s.heap := ⟨_, rfl⟩
  rw [← hH] at hP
  have hS : va_S A s.heap H [] := by rw [hH]; exact hS
  suffices hgoal : W p l e ({ frames := 1, cells := 0, slots := 0, locals := 24 } : Room) s m #[.ref th, .ref qh, .int a2] below meth c H [] 0 0 (MQ below (lw_Qv D cI cZ A (fun u : (Nat → Int32) => [(th, .inr (3, [.ref t0, .ref t1, .ref t2, .ref t3])), (t0, .inl (cI, 6, .inl t_here)), (t1, .inl (cI, 30, .inl t_arriving)), (t2, .inl (cI, 6, .inl u)), (t3, .inl (cI, 6, .inl t_firstPassage)), (qh, .inr (2, [.ref q0, .ref q1, .int q_safeRooms, .int q_passages, .ref q4, .ref q5, .ref q6, .ref q7, .ref q8])), (q0, .inl (cI, 6, .inl q_people)), (q1, .inl (cI, 6, .inl q_area)), (q4, .inl (cI, 10, .inl q_from)), (q5, .inl (cI, 10, .inl q_to)), (q6, .inl (cI, 10, .inl q_width)), (q7, .inl (cI, 10, .inl q_length)), (q8, .inl (cI, 10, .inl q_shut))]) post) #[.ref th, .ref qh, .int a2] s 0 0 A) (F0 m 0 ls []) by rw [hH] at hgoal; exact hgoal
  obtain ⟨locs, hlo⟩ : ∃ locs : List Loc, locs = [] := ⟨_, rfl⟩
  rw [← hlo] at hS ⊢
  rw [vc_X3_findDistances] at hv
  refine lv_iconst (v := 0) hx hb dX3_findDistances_0 (by decide) ?_
  refine lv_istore_n (lv' := [(3, .int 0), (0, .ref th), (1, .ref qh), (2, .int a2)]) hx hb dX3_findDistances_1 rfl hl (by decide) rfl (fun ls hl => ?_)
  obtain ⟨n_14, hv⟩ := hv
  refine w_X3_findDistances_L2 th t0 t1 t2 t3 qh q0 q1 q4 q5 q6 q7 q8 a2 t_here t_arriving t_firstPassage q_people q_area q_safeRooms q_passages q_from q_to q_width q_length q_shut C _ (fun t_distance_7 H locs ls hv hP hD hS hl => ?_) n_14 0 t_distance H locs ls hv hP hD hS (lv_sub hl [1, 2, 3, 0] rfl)
  refine lv_iconst (v := 1) hx hb dX3_findDistances_38 (by decide) ?_
  refine lv_istore_n (lv' := [(3, .int 1), (0, .ref th), (1, .ref qh), (2, .int a2)]) hx hb dX3_findDistances_39 rfl hl (by decide) rfl (fun ls hl => ?_)
  refine lv_iconst (v := 0) hx hb dX3_findDistances_40 (by decide) ?_
  refine lv_istore (lv' := [(4, .int 0), (3, .int 1), (0, .ref th), (1, .ref qh), (2, .int a2)]) hx hb dX3_findDistances_41 hl (by decide) rfl (fun ls hl => ?_)
  obtain ⟨n_13, hv⟩ := hv
  refine w_X3_findDistances_L43 th t0 t1 t2 t3 qh q0 q1 q4 q5 q6 q7 q8 a2 t_here t_arriving t_firstPassage q_people q_area q_safeRooms q_passages q_from q_to q_width q_length q_shut C _ (fun t_distance_12 H locs ls hv hP hD hS hl => ?_) n_13 1 0 t_distance_7 H locs ls hv hP hD hS (lv_sub hl [2, 3, 4, 1, 0] rfl)
  exact lw_vret C t_distance_12 hv hP hD hS dX3_findDistances_123

def vc_X3_findFirstPassages_L15 (K : (Nat → Int32) → Prop) (b2 : Int32) (t_distance : (Nat → Int32)) (q_from : (Nat → Int32)) (q_to : (Nat → Int32)) (q_length : (Nat → Int32)) (q_shut : (Nat → Int32)) : Nat → Int32 → (Nat → Int32) → Prop
  | 0, _, _ => False
  | n + 1, v3, t_firstPassage =>
    ((v3 < 0 → K t_firstPassage) ∧ (¬ v3 < 0 → (vp_in v3 10 ∧ (∀ x4_3 : Int32, x4_3 = (q_from v3.toNatClampNeg) → (vc_X3_distanceThrough v3 b2 t_distance q_to q_length q_shut (fun (r_5 : Int32) (u_4 : Unit) => ((r_5 = 1000 → (∀ x3_6 : Int32, x3_6 = v3 + (-1) → vc_X3_findFirstPassages_L15 K b2 t_distance q_from q_to q_length q_shut n x3_6 t_firstPassage)) ∧ (¬ r_5 = 1000 → (vp_in x4_3 6 ∧ ((¬ r_5 = (t_distance x4_3.toNatClampNeg) → (∀ x3_8 : Int32, x3_8 = v3 + (-1) → vc_X3_findFirstPassages_L15 K b2 t_distance q_from q_to q_length q_shut n x3_8 t_firstPassage)) ∧ (r_5 = (t_distance x4_3.toNatClampNeg) → (vp_in x4_3 6 ∧ (∀ x3_10 : Int32, x3_10 = v3 + (-1) → vc_X3_findFirstPassages_L15 K b2 t_distance q_from q_to q_length q_shut n x3_10 (upd t_firstPassage x4_3.toNatClampNeg v3))))))))))))))

set_option maxHeartbeats 4000000 in
set_option maxRecDepth 100000 in
theorem w_X3_findFirstPassages_L15 {p : Program} {l : Launch} {e : Env} {s : State} {m : MethodId} {args : Array Value} {below : List Frame} {meth : Method} {c : Code} {D : va_G} {cI cZ : ClassId} {A : Nat → Prop} {Q : State → Prop} (th t0 t1 t2 t3 qh q0 q1 q4 q5 q6 q7 q8 : Nat) (b2 : Int32) (t_here : (Nat → Int32)) (t_arriving : (Nat → Int32)) (t_distance : (Nat → Int32)) (q_people : (Nat → Int32)) (q_area : (Nat → Int32)) (q_safeRooms : Int32) (q_passages : Int32) (q_from : (Nat → Int32)) (q_to : (Nat → Int32)) (q_width : (Nat → Int32)) (q_length : (Nat → Int32)) (q_shut : (Nat → Int32)) (C : lw_Cx D cI cZ p s m args meth c cX3_findFirstPassages 6 none RX3 A) (K : (Nat → Int32) → Prop) (hKx : ∀ (k_t_firstPassage : (Nat → Int32)) (H : Heap) (locs : List Loc) (ls : Array Slot), K k_t_firstPassage → va_P D vwCl [(th, .inr (3, [.ref t0, .ref t1, .ref t2, .ref t3])), (t0, .inl (cI, 6, .inl t_here)), (t1, .inl (cI, 30, .inl t_arriving)), (t2, .inl (cI, 6, .inl t_distance)), (t3, .inl (cI, 6, .inl k_t_firstPassage)), (qh, .inr (2, [.ref q0, .ref q1, .int q_safeRooms, .int q_passages, .ref q4, .ref q5, .ref q6, .ref q7, .ref q8])), (q0, .inl (cI, 6, .inl q_people)), (q1, .inl (cI, 6, .inl q_area)), (q4, .inl (cI, 10, .inl q_from)), (q5, .inl (cI, 10, .inl q_to)), (q6, .inl (cI, 10, .inl q_width)), (q7, .inl (cI, 10, .inl q_length)), (q8, .inl (cI, 10, .inl q_shut))] H → va_D A [(th, .inr (3, [.ref t0, .ref t1, .ref t2, .ref t3])), (t0, .inl (cI, 6, .inl t_here)), (t1, .inl (cI, 30, .inl t_arriving)), (t2, .inl (cI, 6, .inl t_distance)), (t3, .inl (cI, 6, .inl k_t_firstPassage)), (qh, .inr (2, [.ref q0, .ref q1, .int q_safeRooms, .int q_passages, .ref q4, .ref q5, .ref q6, .ref q7, .ref q8])), (q0, .inl (cI, 6, .inl q_people)), (q1, .inl (cI, 6, .inl q_area)), (q4, .inl (cI, 10, .inl q_from)), (q5, .inl (cI, 10, .inl q_to)), (q6, .inl (cI, 10, .inl q_width)), (q7, .inl (cI, 10, .inl q_length)), (q8, .inl (cI, 10, .inl q_shut))] → va_S A s.heap H locs → lv_has ls 6 [] → W p l e ({ frames := 1, cells := 0, slots := 0, locals := 24 } : Room) s m args below meth c H locs 0 0 Q (F0 m 70 ls [])) :
    ∀ (n : Nat) (v3 : Int32) (t_firstPassage : (Nat → Int32)) (H : Heap) (locs : List Loc) (ls : Array Slot), vc_X3_findFirstPassages_L15 K b2 t_distance q_from q_to q_length q_shut n v3 t_firstPassage → va_P D vwCl [(th, .inr (3, [.ref t0, .ref t1, .ref t2, .ref t3])), (t0, .inl (cI, 6, .inl t_here)), (t1, .inl (cI, 30, .inl t_arriving)), (t2, .inl (cI, 6, .inl t_distance)), (t3, .inl (cI, 6, .inl t_firstPassage)), (qh, .inr (2, [.ref q0, .ref q1, .int q_safeRooms, .int q_passages, .ref q4, .ref q5, .ref q6, .ref q7, .ref q8])), (q0, .inl (cI, 6, .inl q_people)), (q1, .inl (cI, 6, .inl q_area)), (q4, .inl (cI, 10, .inl q_from)), (q5, .inl (cI, 10, .inl q_to)), (q6, .inl (cI, 10, .inl q_width)), (q7, .inl (cI, 10, .inl q_length)), (q8, .inl (cI, 10, .inl q_shut))] H → va_D A [(th, .inr (3, [.ref t0, .ref t1, .ref t2, .ref t3])), (t0, .inl (cI, 6, .inl t_here)), (t1, .inl (cI, 30, .inl t_arriving)), (t2, .inl (cI, 6, .inl t_distance)), (t3, .inl (cI, 6, .inl t_firstPassage)), (qh, .inr (2, [.ref q0, .ref q1, .int q_safeRooms, .int q_passages, .ref q4, .ref q5, .ref q6, .ref q7, .ref q8])), (q0, .inl (cI, 6, .inl q_people)), (q1, .inl (cI, 6, .inl q_area)), (q4, .inl (cI, 10, .inl q_from)), (q5, .inl (cI, 10, .inl q_to)), (q6, .inl (cI, 10, .inl q_width)), (q7, .inl (cI, 10, .inl q_length)), (q8, .inl (cI, 10, .inl q_shut))] → va_S A s.heap H locs → lv_has ls 6 [(0, .ref th), (1, .ref qh), (2, .int b2), (3, .int v3)] → W p l e ({ frames := 1, cells := 0, slots := 0, locals := 24 } : Room) s m args below meth c H locs 0 0 Q (F0 m 15 ls []) := by
  obtain ⟨hx, hb, hr, hml, hown, hts, hlocks, hN, hK, hA⟩ := id C
  intro n
  induction n with
  | zero =>
    intro v3 t_firstPassage H locs ls hv
    exact False.elim hv
  | succ n ih =>
    intro v3 t_firstPassage H locs ls hv hP hD hS hl
    rw [vc_X3_findFirstPassages_L15] at hv
    refine lv_iload_n hx hb dX3_findFirstPassages_15 rfl (lv_at hl 3 rfl) ?_
    refine lv_if_lt (tgt := 70) hx hb dX3_findFirstPassages_16 (by decide) (fun c9 => ?_) (fun c9 => ?_)
    · have hv := hv.1 c9
      exact hKx t_firstPassage H locs ls hv hP hD hS (lv_sub hl [] rfl)
    · have hv := hv.2 c9
      refine lv_aload_n hx hb dX3_findFirstPassages_19 rfl (lv_at hl 1 rfl) ?_
      refine va_getN (D := D) (ci := 2) (v := .ref q4) (C := RX2) (T := TX2) (N := 9) hx hb hts iX2 hown hK hP 5 rfl rfl 4 (by decide) (va_Nw.use rfl (hN _ kw_113)) (fun _ h9 => h9) rfl dX3_findFirstPassages_20 ?_
      refine lv_iload_n hx hb dX3_findFirstPassages_23 rfl (lv_at hl 3 rfl) ?_
      obtain ⟨hi_2, hv⟩ := hv
      refine va_iald hx hb hK hP 8 0 rfl rfl hi_2 dX3_findFirstPassages_24 ?_
      refine lv_topi (fun x4_3 ex4_3 => ?_)
      have hv := hv x4_3 ex4_3
      refine lv_istore (lv' := [(4, .int x4_3), (0, .ref th), (1, .ref qh), (2, .int b2), (3, .int v3)]) hx hb dX3_findFirstPassages_25 hl (by decide) rfl (fun ls hl => ?_)
      refine lv_aload_n hx hb dX3_findFirstPassages_27 rfl (lv_at hl 1 rfl) ?_
      refine lv_aload_n hx hb dX3_findFirstPassages_28 rfl (lv_at hl 2 rfl) ?_
      refine lv_iload_n hx hb dX3_findFirstPassages_29 rfl (lv_at hl 4 rfl) ?_
      refine lv_iload_n hx hb dX3_findFirstPassages_30 rfl (lv_at hl 3 rfl) ?_
      refine lw_calli (wr := []) C (lw_runV (own := RX3) (n := 3) C hP hD [0, 1, 2, 3, 4, 5, 6, 7, 8, 9, 10, 11, 12] rfl rfl 3 rfl rfl rfl (m_X3_distanceThrough l D cI cZ th t0 t1 t2 t3 qh q0 q1 q4 q5 q6 q7 q8 v3 b2 t_here t_arriving t_distance t_firstPassage q_people q_area q_safeRooms q_passages q_from q_to q_width q_length q_shut H.size hv) kw_507 kw_504 kw_506 kw_32 kw_73 (by decide +kernel) rfl ⟨rfl, rfl, Nat.le_of_ble_eq_true rfl, Nat.le_of_ble_eq_true rfl, Nat.le_of_ble_eq_true rfl, Nat.le_of_ble_eq_true rfl⟩ hl.1 rfl (Nat.le_of_ble_eq_true rfl) dX3_findFirstPassages_31) hP hD hS [0, 1, 2, 3, 4, 5, 6, 7, 8, 9, 10, 11, 12] [] rfl rfl rfl (by decide +kernel) (fun r_5 u_4 H locs hv hP hD hS => ?_)
      have hP : va_P D vwCl [(th, .inr (3, [.ref t0, .ref t1, .ref t2, .ref t3])), (t0, .inl (cI, 6, .inl t_here)), (t1, .inl (cI, 30, .inl t_arriving)), (t2, .inl (cI, 6, .inl t_distance)), (t3, .inl (cI, 6, .inl t_firstPassage)), (qh, .inr (2, [.ref q0, .ref q1, .int q_safeRooms, .int q_passages, .ref q4, .ref q5, .ref q6, .ref q7, .ref q8])), (q0, .inl (cI, 6, .inl q_people)), (q1, .inl (cI, 6, .inl q_area)), (q4, .inl (cI, 10, .inl q_from)), (q5, .inl (cI, 10, .inl q_to)), (q6, .inl (cI, 10, .inl q_width)), (q7, .inl (cI, 10, .inl q_length)), (q8, .inl (cI, 10, .inl q_shut))] H := hP
      have hD : va_D A [(th, .inr (3, [.ref t0, .ref t1, .ref t2, .ref t3])), (t0, .inl (cI, 6, .inl t_here)), (t1, .inl (cI, 30, .inl t_arriving)), (t2, .inl (cI, 6, .inl t_distance)), (t3, .inl (cI, 6, .inl t_firstPassage)), (qh, .inr (2, [.ref q0, .ref q1, .int q_safeRooms, .int q_passages, .ref q4, .ref q5, .ref q6, .ref q7, .ref q8])), (q0, .inl (cI, 6, .inl q_people)), (q1, .inl (cI, 6, .inl q_area)), (q4, .inl (cI, 10, .inl q_from)), (q5, .inl (cI, 10, .inl q_to)), (q6, .inl (cI, 10, .inl q_width)), (q7, .inl (cI, 10, .inl q_length)), (q8, .inl (cI, 10, .inl q_shut))] := hD
      refine lv_istore (lv' := [(5, .int r_5), (4, .int x4_3), (0, .ref th), (1, .ref qh), (2, .int b2), (3, .int v3)]) hx hb dX3_findFirstPassages_34 hl (by decide) rfl (fun ls hl => ?_)
      refine lv_iload hx hb dX3_findFirstPassages_36 (lv_at hl 0 rfl) ?_
      refine lv_sipush (v := 1000) hx hb dX3_findFirstPassages_38 (by decide) ?_
      refine lv_icmp_eq (tgt := 64) hx hb dX3_findFirstPassages_41 (by decide) (fun c9 => ?_) (fun c9 => ?_)
      · have hv := hv.1 c9
        obtain ⟨x3_6, ex3_6⟩ : ∃ y : Int32, y = v3 + (-1) := ⟨_, rfl⟩
        have hv := hv x3_6 ex3_6
        refine lv_iinc (v := x3_6) (lv' := [(3, .int x3_6), (5, .int r_5), (4, .int x4_3), (0, .ref th), (1, .ref qh), (2, .int b2)]) hx hb dX3_findFirstPassages_64 hl (k := 5) rfl (by rw [ex3_6]; rfl) (by decide) rfl (fun ls hl => ?_)
        refine lv_goto (tgt := 15) hx hb dX3_findFirstPassages_67 (by decide) ?_
        exact ih x3_6 t_firstPassage H locs ls hv hP hD hS (lv_sub hl [3, 4, 5, 0] rfl)
      · have hv := hv.2 c9
        refine lv_iload hx hb dX3_findFirstPassages_44 (lv_at hl 0 rfl) ?_
        refine lv_aload_n hx hb dX3_findFirstPassages_46 rfl (lv_at hl 2 rfl) ?_
        refine va_get (D := D) (ci := 3) (v := .ref t2) (C := RX3) (T := TX3) (N := 4) hx hb hts iX3 hown hK hP 0 rfl rfl 2 (by decide) (hts _ kw_232) (fun _ h9 => h9) rfl dX3_findFirstPassages_47 ?_
        refine lv_iload hx hb dX3_findFirstPassages_50 (lv_at hl 1 rfl) ?_
        obtain ⟨hi_7, hv⟩ := hv
        refine va_iald hx hb hK hP 3 0 rfl rfl hi_7 dX3_findFirstPassages_52 ?_
        refine lv_icmp_ne (tgt := 64) hx hb dX3_findFirstPassages_53 (by decide) (fun c9 => ?_) (fun c9 => ?_)
        · have hv := hv.1 c9
          obtain ⟨x3_8, ex3_8⟩ : ∃ y : Int32, y = v3 + (-1) := ⟨_, rfl⟩
          have hv := hv x3_8 ex3_8
          refine lv_iinc (v := x3_8) (lv' := [(3, .int x3_8), (5, .int r_5), (4, .int x4_3), (0, .ref th), (1, .ref qh), (2, .int b2)]) hx hb dX3_findFirstPassages_64 hl (k := 5) rfl (by rw [ex3_8]; rfl) (by decide) rfl (fun ls hl => ?_)
          refine lv_goto (tgt := 15) hx hb dX3_findFirstPassages_67 (by decide) ?_
          exact ih x3_8 t_firstPassage H locs ls hv hP hD hS (lv_sub hl [3, 4, 5, 0] rfl)
        · have hv := hv.2 c9
          refine lv_aload_n hx hb dX3_findFirstPassages_56 rfl (lv_at hl 2 rfl) ?_
          refine va_get (D := D) (ci := 3) (v := .ref t3) (C := RX3) (T := TX3) (N := 4) hx hb hts iX3 hown hK hP 0 rfl rfl 3 (by decide) (hts _ kw_233) (fun _ h9 => h9) rfl dX3_findFirstPassages_57 ?_
          refine lv_iload hx hb dX3_findFirstPassages_60 (lv_at hl 1 rfl) ?_
          refine lv_iload_n hx hb dX3_findFirstPassages_62 rfl (lv_at hl 5 rfl) ?_
          obtain ⟨hi_9, hv⟩ := hv
          refine va_iast hx hb hK hP hD hS 4 0 rfl rfl hi_9 dX3_findFirstPassages_63 (fun H locs hP hD hS => ?_)
          have hP : va_P D vwCl [(th, .inr (3, [.ref t0, .ref t1, .ref t2, .ref t3])), (t0, .inl (cI, 6, .inl t_here)), (t1, .inl (cI, 30, .inl t_arriving)), (t2, .inl (cI, 6, .inl t_distance)), (t3, .inl (cI, 6, .inl (upd t_firstPassage x4_3.toNatClampNeg v3))), (qh, .inr (2, [.ref q0, .ref q1, .int q_safeRooms, .int q_passages, .ref q4, .ref q5, .ref q6, .ref q7, .ref q8])), (q0, .inl (cI, 6, .inl q_people)), (q1, .inl (cI, 6, .inl q_area)), (q4, .inl (cI, 10, .inl q_from)), (q5, .inl (cI, 10, .inl q_to)), (q6, .inl (cI, 10, .inl q_width)), (q7, .inl (cI, 10, .inl q_length)), (q8, .inl (cI, 10, .inl q_shut))] H := hP
          have hD : va_D A [(th, .inr (3, [.ref t0, .ref t1, .ref t2, .ref t3])), (t0, .inl (cI, 6, .inl t_here)), (t1, .inl (cI, 30, .inl t_arriving)), (t2, .inl (cI, 6, .inl t_distance)), (t3, .inl (cI, 6, .inl (upd t_firstPassage x4_3.toNatClampNeg v3))), (qh, .inr (2, [.ref q0, .ref q1, .int q_safeRooms, .int q_passages, .ref q4, .ref q5, .ref q6, .ref q7, .ref q8])), (q0, .inl (cI, 6, .inl q_people)), (q1, .inl (cI, 6, .inl q_area)), (q4, .inl (cI, 10, .inl q_from)), (q5, .inl (cI, 10, .inl q_to)), (q6, .inl (cI, 10, .inl q_width)), (q7, .inl (cI, 10, .inl q_length)), (q8, .inl (cI, 10, .inl q_shut))] := hD
          obtain ⟨x3_10, ex3_10⟩ : ∃ y : Int32, y = v3 + (-1) := ⟨_, rfl⟩
          have hv := hv x3_10 ex3_10
          refine lv_iinc (v := x3_10) (lv' := [(3, .int x3_10), (5, .int r_5), (4, .int x4_3), (0, .ref th), (1, .ref qh), (2, .int b2)]) hx hb dX3_findFirstPassages_64 hl (k := 5) rfl (by rw [ex3_10]; rfl) (by decide) rfl (fun ls hl => ?_)
          refine lv_goto (tgt := 15) hx hb dX3_findFirstPassages_67 (by decide) ?_
          exact ih x3_10 (upd t_firstPassage x4_3.toNatClampNeg v3) H locs ls hv hP hD hS (lv_sub hl [3, 4, 5, 0] rfl)

def vc_X3_findFirstPassages (a2 : Int32) (t_distance : (Nat → Int32)) (t_firstPassage : (Nat → Int32)) (q_passages : Int32) (q_from : (Nat → Int32)) (q_to : (Nat → Int32)) (q_length : (Nat → Int32)) (q_shut : (Nat → Int32)) (post : (Nat → Int32) → Prop) : Prop :=
  (∀ x3_1 : Int32, x3_1 = (q_passages - 1) → (∃ n_12, vc_X3_findFirstPassages_L15 (fun t_firstPassage_11 => post t_firstPassage_11)  a2 t_distance q_from q_to q_length q_shut n_12 x3_1 (lw_fil 6 (-1) t_firstPassage)))

set_option maxHeartbeats 4000000 in
set_option maxRecDepth 100000 in
theorem m_X3_findFirstPassages (l : Launch) (D : va_G) (cI cZ : ClassId) (th t0 t1 t2 t3 qh q0 q1 q4 q5 q6 q7 q8 : Nat) (a2 : Int32) (t_here : (Nat → Int32)) (t_arriving : (Nat → Int32)) (t_distance : (Nat → Int32)) (t_firstPassage : (Nat → Int32)) (q_people : (Nat → Int32)) (q_area : (Nat → Int32)) (q_safeRooms : Int32) (q_passages : Int32) (q_from : (Nat → Int32)) (q_to : (Nat → Int32)) (q_width : (Nat → Int32)) (q_length : (Nat → Int32)) (q_shut : (Nat → Int32)) (sz : Nat) {post : (Nat → Int32) → Prop} (hv : vc_X3_findFirstPassages a2 t_distance t_firstPassage q_passages q_from q_to q_length q_shut post) :
    Met l yX3_findFirstPassages (Cond.code yX3_findFirstPassages cX3_findFirstPassages 6 none :: lw_good) ({ frames := 1, cells := 0, slots := 0, locals := 24 } : Room) (va_Pc [.ref th, .ref qh, .int a2] (lw_B D cI cZ [(th, .inr (3, [.ref t0, .ref t1, .ref t2, .ref t3])), (t0, .inl (cI, 6, .inl t_here)), (t1, .inl (cI, 30, .inl t_arriving)), (t2, .inl (cI, 6, .inl t_distance)), (t3, .inl (cI, 6, .inl t_firstPassage)), (qh, .inr (2, [.ref q0, .ref q1, .int q_safeRooms, .int q_passages, .ref q4, .ref q5, .ref q6, .ref q7, .ref q8])), (q0, .inl (cI, 6, .inl q_people)), (q1, .inl (cI, 6, .inl q_area)), (q4, .inl (cI, 10, .inl q_from)), (q5, .inl (cI, 10, .inl q_to)), (q6, .inl (cI, 10, .inl q_width)), (q7, .inl (cI, 10, .inl q_length)), (q8, .inl (cI, 10, .inl q_shut))] sz)) (lw_Qv D cI cZ (va_A [(th, .inr (3, [.ref t0, .ref t1, .ref t2, .ref t3])), (t0, .inl (cI, 6, .inl t_here)), (t1, .inl (cI, 30, .inl t_arriving)), (t2, .inl (cI, 6, .inl t_distance)), (t3, .inl (cI, 6, .inl t_firstPassage)), (qh, .inr (2, [.ref q0, .ref q1, .int q_safeRooms, .int q_passages, .ref q4, .ref q5, .ref q6, .ref q7, .ref q8])), (q0, .inl (cI, 6, .inl q_people)), (q1, .inl (cI, 6, .inl q_area)), (q4, .inl (cI, 10, .inl q_from)), (q5, .inl (cI, 10, .inl q_to)), (q6, .inl (cI, 10, .inl q_width)), (q7, .inl (cI, 10, .inl q_length)), (q8, .inl (cI, 10, .inl q_shut))] sz) (fun u : (Nat → Int32) => [(th, .inr (3, [.ref t0, .ref t1, .ref t2, .ref t3])), (t0, .inl (cI, 6, .inl t_here)), (t1, .inl (cI, 30, .inl t_arriving)), (t2, .inl (cI, 6, .inl t_distance)), (t3, .inl (cI, 6, .inl u)), (qh, .inr (2, [.ref q0, .ref q1, .int q_safeRooms, .int q_passages, .ref q4, .ref q5, .ref q6, .ref q7, .ref q8])), (q0, .inl (cI, 6, .inl q_people)), (q1, .inl (cI, 6, .inl q_area)), (q4, .inl (cI, 10, .inl q_from)), (q5, .inl (cI, 10, .inl q_to)), (q6, .inl (cI, 10, .inl q_width)), (q7, .inl (cI, 10, .inl q_length)), (q8, .inl (cI, 10, .inl q_shut))]) post) 0 0 (va_A [(th, .inr (3, [.ref t0, .ref t1, .ref t2, .ref t3])), (t0, .inl (cI, 6, .inl t_here)), (t1, .inl (cI, 30, .inl t_arriving)), (t2, .inl (cI, 6, .inl t_distance)), (t3, .inl (cI, 6, .inl t_firstPassage)), (qh, .inr (2, [.ref q0, .ref q1, .int q_safeRooms, .int q_passages, .ref q4, .ref q5, .ref q6, .ref q7, .ref q8])), (q0, .inl (cI, 6, .inl q_people)), (q1, .inl (cI, 6, .inl q_area)), (q4, .inl (cI, 10, .inl q_from)), (q5, .inl (cI, 10, .inl q_to)), (q6, .inl (cI, 10, .inl q_width)), (q7, .inl (cI, 10, .inl q_length)), (q8, .inl (cI, 10, .inl q_shut))] sz) := by
  refine lw_met (Q := fun A => lw_Qv D cI cZ A (fun u : (Nat → Int32) => [(th, .inr (3, [.ref t0, .ref t1, .ref t2, .ref t3])), (t0, .inl (cI, 6, .inl t_here)), (t1, .inl (cI, 30, .inl t_arriving)), (t2, .inl (cI, 6, .inl t_distance)), (t3, .inl (cI, 6, .inl u)), (qh, .inr (2, [.ref q0, .ref q1, .int q_safeRooms, .int q_passages, .ref q4, .ref q5, .ref q6, .ref q7, .ref q8])), (q0, .inl (cI, 6, .inl q_people)), (q1, .inl (cI, 6, .inl q_area)), (q4, .inl (cI, 10, .inl q_from)), (q5, .inl (cI, 10, .inl q_to)), (q6, .inl (cI, 10, .inl q_width)), (q7, .inl (cI, 10, .inl q_length)), (q8, .inl (cI, 10, .inl q_shut))]) post) (by decide) (Nat.le_of_ble_eq_true rfl) ?_
  intro p e s m below meth c A C hnm hP hD hS ls hl
  have C : lw_Cx D cI cZ p s m _ meth c cX3_findFirstPassages 6 none RX3 A := C
  obtain ⟨hx, hb, hr, hml, hown, hts, hlocks, hN, hK, hA⟩ := id C
  have hl : lv_has ls 6 [(0, .ref th), (1, .ref qh), (2, .int a2)] := hl
  obtain ⟨H, hH⟩ : ∃ H, H = s.heap := ⟨_, rfl⟩
  rw [← hH] at hP
  have hS : va_S A s.heap H [] := by rw [hH]; exact hS
  suffices hgoal : W p l e ({ frames := 1, cells := 0, slots := 0, locals := 24 } : Room) s m #[.ref th, .ref qh, .int a2] below meth c H [] 0 0 (MQ below (lw_Qv D cI cZ A (fun u : (Nat → Int32) => [(th, .inr (3, [.ref t0, .ref t1, .ref t2, .ref t3])), (t0, .inl (cI, 6, .inl t_here)), (t1, .inl (cI, 30, .inl t_arriving)), (t2, .inl (cI, 6, .inl t_distance)), (t3, .inl (cI, 6, .inl u)), (qh, .inr (2, [.ref q0, .ref q1, .int q_safeRooms, .int q_passages, .ref q4, .ref q5, .ref q6, .ref q7, .ref q8])), (q0, .inl (cI, 6, .inl q_people)), (q1, .inl (cI, 6, .inl q_area)), (q4, .inl (cI, 10, .inl q_from)), (q5, .inl (cI, 10, .inl q_to)), (q6, .inl (cI, 10, .inl q_width)), (q7, .inl (cI, 10, .inl q_length)), (q8, .inl (cI, 10, .inl q_shut))]) post) #[.ref th, .ref qh, .int a2] s 0 0 A) (F0 m 0 ls []) by rw [hH] at hgoal; exact hgoal
  obtain ⟨locs, hlo⟩ : ∃ locs : List Loc, locs = [] := ⟨_, rfl⟩
  rw [← hlo] at hS ⊢
  rw [vc_X3_findFirstPassages] at hv
  refine lv_aload_n hx hb dX3_findFirstPassages_0 rfl (lv_at hl 0 rfl) ?_
  refine va_get (D := D) (ci := 3) (v := .ref t3) (C := RX3) (T := TX3) (N := 4) hx hb hts iX3 hown hK hP 0 rfl rfl 3 (by decide) (hts _ kw_233) (fun _ h9 => h9) rfl dX3_findFirstPassages_1 ?_
  refine lv_iconst (v := (-1)) hx hb dX3_findFirstPassages_4 (by decide) ?_
  refine lw_callv (wr := [(th, .inr (3, [.ref t0, .ref t1, .ref t2, .ref t3])), (t0, .inl (cI, 6, .inl t_here)), (t1, .inl (cI, 30, .inl t_arriving)), (t2, .inl (cI, 6, .inl t_distance)), (qh, .inr (2, [.ref q0, .ref q1, .int q_safeRooms, .int q_passages, .ref q4, .ref q5, .ref q6, .ref q7, .ref q8])), (q0, .inl (cI, 6, .inl q_people)), (q1, .inl (cI, 6, .inl q_area)), (q4, .inl (cI, 10, .inl q_from)), (q5, .inl (cI, 10, .inl q_to)), (q6, .inl (cI, 10, .inl q_width)), (q7, .inl (cI, 10, .inl q_length)), (q8, .inl (cI, 10, .inl q_shut))]) C (lw_runS (own := RX3) (n := 2) C hP hD [4] rfl rfl (m_fill l D cI cZ t3 t_firstPassage (-1) H.size 6 (by decide)) kw_96 kw_486 kw_95 kw_70 (by decide +kernel) rfl ⟨rfl, rfl, Nat.le_of_ble_eq_true rfl, Nat.le_of_ble_eq_true rfl, Nat.le_of_ble_eq_true rfl, Nat.le_of_ble_eq_true rfl⟩ hl.1 rfl (Nat.le_of_ble_eq_true rfl) dX3_findFirstPassages_5) hP hD hS [4] [0, 1, 2, 3, 5, 6, 7, 8, 9, 10, 11, 12] rfl rfl rfl (by decide +kernel) (fun u H locs hu hP hD hS => ?_)
  subst hu
  have hP : va_P D vwCl [(th, .inr (3, [.ref t0, .ref t1, .ref t2, .ref t3])), (t0, .inl (cI, 6, .inl t_here)), (t1, .inl (cI, 30, .inl t_arriving)), (t2, .inl (cI, 6, .inl t_distance)), (t3, .inl (cI, 6, .inl (lw_fil 6 (-1) t_firstPassage))), (qh, .inr (2, [.ref q0, .ref q1, .int q_safeRooms, .int q_passages, .ref q4, .ref q5, .ref q6, .ref q7, .ref q8])), (q0, .inl (cI, 6, .inl q_people)), (q1, .inl (cI, 6, .inl q_area)), (q4, .inl (cI, 10, .inl q_from)), (q5, .inl (cI, 10, .inl q_to)), (q6, .inl (cI, 10, .inl q_width)), (q7, .inl (cI, 10, .inl q_length)), (q8, .inl (cI, 10, .inl q_shut))] H := hP.sub [0, 1, 2, 3, 12, 4, 5, 6, 7, 8, 9, 10, 11] rfl
  have hD : va_D A [(th, .inr (3, [.ref t0, .ref t1, .ref t2, .ref t3])), (t0, .inl (cI, 6, .inl t_here)), (t1, .inl (cI, 30, .inl t_arriving)), (t2, .inl (cI, 6, .inl t_distance)), (t3, .inl (cI, 6, .inl (lw_fil 6 (-1) t_firstPassage))), (qh, .inr (2, [.ref q0, .ref q1, .int q_safeRooms, .int q_passages, .ref q4, .ref q5, .ref q6, .ref q7, .ref q8])), (q0, .inl (cI, 6, .inl q_people)), (q1, .inl (cI, 6, .inl q_area)), (q4, .inl (cI, 10, .inl q_from)), (q5, .inl (cI, 10, .inl q_to)), (q6, .inl (cI, 10, .inl q_width)), (q7, .inl (cI, 10, .inl q_length)), (q8, .inl (cI, 10, .inl q_shut))] := hD.sub [0, 1, 2, 3, 12, 4, 5, 6, 7, 8, 9, 10, 11] rfl rfl
  refine lv_aload_n hx hb dX3_findFirstPassages_8 rfl (lv_at hl 1 rfl) ?_
  refine va_getN (D := D) (ci := 2) (v := .int q_passages) (C := RX2) (T := TX2) (N := 9) hx hb hts iX2 hown hK hP 5 rfl rfl 3 (by decide) (va_Nw.use rfl (hN _ kw_110)) (fun _ h9 => h9) rfl dX3_findFirstPassages_9 ?_
  refine lv_iconst (v := 1) hx hb dX3_findFirstPassages_12 (by decide) ?_
  refine lv_isub hx hb dX3_findFirstPassages_13 ?_
  refine lv_topi (fun x3_1 ex3_1 => ?_)
  have hv := hv x3_1 ex3_1
  refine lv_istore_n (lv' := [(3, .int x3_1), (0, .ref th), (1, .ref qh), (2, .int a2)]) hx hb dX3_findFirstPassages_14 rfl hl (by decide) rfl (fun ls hl => ?_)
  obtain ⟨n_12, hv⟩ := hv
  refine w_X3_findFirstPassages_L15 th t0 t1 t2 t3 qh q0 q1 q4 q5 q6 q7 q8 a2 t_here t_arriving t_distance q_people q_area q_safeRooms q_passages q_from q_to q_width q_length q_shut C _ (fun t_firstPassage_11 H locs ls hv hP hD hS hl => ?_) n_12 x3_1 (lw_fil 6 (-1) t_firstPassage) H locs ls hv hP hD hS (lv_sub hl [1, 2, 3, 0] rfl)
  exact lw_vret C t_firstPassage_11 hv hP hD hS dX3_findFirstPassages_70

def vc_X3_leave_L26 (K : (Nat → Int32) → (Nat → Int32) → Prop) (b2 : Int32) (t_firstPassage : (Nat → Int32)) (q_to : (Nat → Int32)) (q_width : (Nat → Int32)) (q_length : (Nat → Int32)) : Nat → Int32 → (Nat → Int32) → (Nat → Int32) → Prop
  | 0, _, _, _ => False
  | n + 1, v3, t_here, t_arriving =>
    ((6 ≤ v3 → K t_here t_arriving) ∧ (¬ 6 ≤ v3 → (vp_in v3 6 ∧ (∀ x4_4 : Int32, x4_4 = (t_firstPassage v3.toNatClampNeg) → ((x4_4 < 0 → (∀ x3_5 : Int32, x3_5 = v3 + 1 → vc_X3_leave_L26 K b2 t_firstPassage q_to q_width q_length n x3_5 t_here t_arriving)) ∧ (¬ x4_4 < 0 → (vp_in v3 6 ∧ (vp_in x4_4 10 ∧ (∀ x5_8 : Int32, x5_8 = (if (q_width x4_4.toNatClampNeg) < (t_here v3.toNatClampNeg) then (q_width x4_4.toNatClampNeg) else (t_here v3.toNatClampNeg)) → (vp_in v3 6 ∧ (vp_in v3 6 ∧ (vp_in x4_4 10 ∧ (∀ x6_12 : Int32, x6_12 = (((b2 + (q_length x4_4.toNatClampNeg)) - (b2 + (q_length x4_4.toNatClampNeg)) / 5 * 5) * 6) → (vp_in x4_4 10 ∧ (vp_in (x6_12 + (q_to x4_4.toNatClampNeg)) 30 ∧ (vp_in (x6_12 + (q_to x4_4.toNatClampNeg)) 30 ∧ (∀ x3_16 : Int32, x3_16 = v3 + 1 → vc_X3_leave_L26 K b2 t_firstPassage q_to q_width q_length n x3_16 (upd t_here v3.toNatClampNeg ((t_here v3.toNatClampNeg) - x5_8)) (upd t_arriving ((x6_12 + (q_to x4_4.toNatClampNeg))).toNatClampNeg ((t_arriving ((x6_12 + (q_to x4_4.toNatClampNeg))).toNatClampNeg) + x5_8)))))))))))))))))))

set_option maxHeartbeats 4000000 in
set_option maxRecDepth 100000 in
theorem w_X3_leave_L26 {p : Program} {l : Launch} {e : Env} {s : State} {m : MethodId} {args : Array Value} {below : List Frame} {meth : Method} {c : Code} {D : va_G} {cI cZ : ClassId} {A : Nat → Prop} {Q : State → Prop} (th t0 t1 t2 t3 qh q0 q1 q4 q5 q6 q7 q8 : Nat) (b2 : Int32) (t_distance : (Nat → Int32)) (t_firstPassage : (Nat → Int32)) (q_people : (Nat → Int32)) (q_area : (Nat → Int32)) (q_safeRooms : Int32) (q_passages : Int32) (q_from : (Nat → Int32)) (q_to : (Nat → Int32)) (q_width : (Nat → Int32)) (q_length : (Nat → Int32)) (q_shut : (Nat → Int32)) (C : lw_Cx D cI cZ p s m args meth c cX3_leave 7 none RX3 A) (K : (Nat → Int32) → (Nat → Int32) → Prop) (hKx : ∀ (k_t_here : (Nat → Int32)) (k_t_arriving : (Nat → Int32)) (H : Heap) (locs : List Loc) (ls : Array Slot), K k_t_here k_t_arriving → va_P D vwCl [(th, .inr (3, [.ref t0, .ref t1, .ref t2, .ref t3])), (t0, .inl (cI, 6, .inl k_t_here)), (t1, .inl (cI, 30, .inl k_t_arriving)), (t2, .inl (cI, 6, .inl t_distance)), (t3, .inl (cI, 6, .inl t_firstPassage)), (qh, .inr (2, [.ref q0, .ref q1, .int q_safeRooms, .int q_passages, .ref q4, .ref q5, .ref q6, .ref q7, .ref q8])), (q0, .inl (cI, 6, .inl q_people)), (q1, .inl (cI, 6, .inl q_area)), (q4, .inl (cI, 10, .inl q_from)), (q5, .inl (cI, 10, .inl q_to)), (q6, .inl (cI, 10, .inl q_width)), (q7, .inl (cI, 10, .inl q_length)), (q8, .inl (cI, 10, .inl q_shut))] H → va_D A [(th, .inr (3, [.ref t0, .ref t1, .ref t2, .ref t3])), (t0, .inl (cI, 6, .inl k_t_here)), (t1, .inl (cI, 30, .inl k_t_arriving)), (t2, .inl (cI, 6, .inl t_distance)), (t3, .inl (cI, 6, .inl t_firstPassage)), (qh, .inr (2, [.ref q0, .ref q1, .int q_safeRooms, .int q_passages, .ref q4, .ref q5, .ref q6, .ref q7, .ref q8])), (q0, .inl (cI, 6, .inl q_people)), (q1, .inl (cI, 6, .inl q_area)), (q4, .inl (cI, 10, .inl q_from)), (q5, .inl (cI, 10, .inl q_to)), (q6, .inl (cI, 10, .inl q_width)), (q7, .inl (cI, 10, .inl q_length)), (q8, .inl (cI, 10, .inl q_shut))] → va_S A s.heap H locs → lv_has ls 7 [] → W p l e ({ frames := 2, cells := 0, slots := 0, locals := 50 } : Room) s m args below meth c H locs 0 0 Q (F0 m 116 ls [])) :
    ∀ (n : Nat) (v3 : Int32) (t_here : (Nat → Int32)) (t_arriving : (Nat → Int32)) (H : Heap) (locs : List Loc) (ls : Array Slot), vc_X3_leave_L26 K b2 t_firstPassage q_to q_width q_length n v3 t_here t_arriving → va_P D vwCl [(th, .inr (3, [.ref t0, .ref t1, .ref t2, .ref t3])), (t0, .inl (cI, 6, .inl t_here)), (t1, .inl (cI, 30, .inl t_arriving)), (t2, .inl (cI, 6, .inl t_distance)), (t3, .inl (cI, 6, .inl t_firstPassage)), (qh, .inr (2, [.ref q0, .ref q1, .int q_safeRooms, .int q_passages, .ref q4, .ref q5, .ref q6, .ref q7, .ref q8])), (q0, .inl (cI, 6, .inl q_people)), (q1, .inl (cI, 6, .inl q_area)), (q4, .inl (cI, 10, .inl q_from)), (q5, .inl (cI, 10, .inl q_to)), (q6, .inl (cI, 10, .inl q_width)), (q7, .inl (cI, 10, .inl q_length)), (q8, .inl (cI, 10, .inl q_shut))] H → va_D A [(th, .inr (3, [.ref t0, .ref t1, .ref t2, .ref t3])), (t0, .inl (cI, 6, .inl t_here)), (t1, .inl (cI, 30, .inl t_arriving)), (t2, .inl (cI, 6, .inl t_distance)), (t3, .inl (cI, 6, .inl t_firstPassage)), (qh, .inr (2, [.ref q0, .ref q1, .int q_safeRooms, .int q_passages, .ref q4, .ref q5, .ref q6, .ref q7, .ref q8])), (q0, .inl (cI, 6, .inl q_people)), (q1, .inl (cI, 6, .inl q_area)), (q4, .inl (cI, 10, .inl q_from)), (q5, .inl (cI, 10, .inl q_to)), (q6, .inl (cI, 10, .inl q_width)), (q7, .inl (cI, 10, .inl q_length)), (q8, .inl (cI, 10, .inl q_shut))] → va_S A s.heap H locs → lv_has ls 7 [(0, .ref th), (1, .ref qh), (2, .int b2), (3, .int v3)] → W p l e ({ frames := 2, cells := 0, slots := 0, locals := 50 } : Room) s m args below meth c H locs 0 0 Q (F0 m 26 ls []) := by
  obtain ⟨hx, hb, hr, hml, hown, hts, hlocks, hN, hK, hA⟩ := id C
  intro n
  induction n with
  | zero =>
    intro v3 t_here t_arriving H locs ls hv
    exact False.elim hv
  | succ n ih =>
    intro v3 t_here t_arriving H locs ls hv hP hD hS hl
    rw [vc_X3_leave_L26] at hv
    refine lv_iload_n hx hb dX3_leave_26 rfl (lv_at hl 3 rfl) ?_
    refine lv_bipush (v := 6) hx hb dX3_leave_27 (by decide) ?_
    refine lv_icmp_ge (tgt := 116) hx hb dX3_leave_29 (by decide) (fun c9 => ?_) (fun c9 => ?_)
    · have hv := hv.1 c9
      exact hKx t_here t_arriving H locs ls hv hP hD hS (lv_sub hl [] rfl)
    · have hv := hv.2 c9
      refine lv_aload_n hx hb dX3_leave_32 rfl (lv_at hl 0 rfl) ?_
      refine va_get (D := D) (ci := 3) (v := .ref t3) (C := RX3) (T := TX3) (N := 4) hx hb hts iX3 hown hK hP 0 rfl rfl 3 (by decide) (hts _ kw_233) (fun _ h9 => h9) rfl dX3_leave_33 ?_
      refine lv_iload_n hx hb dX3_leave_36 rfl (lv_at hl 3 rfl) ?_
      obtain ⟨hi_3, hv⟩ := hv
      refine va_iald hx hb hK hP 4 0 rfl rfl hi_3 dX3_leave_37 ?_
      refine lv_topi (fun x4_4 ex4_4 => ?_)
      have hv := hv x4_4 ex4_4
      refine lv_istore (lv' := [(4, .int x4_4), (0, .ref th), (1, .ref qh), (2, .int b2), (3, .int v3)]) hx hb dX3_leave_38 hl (by decide) rfl (fun ls hl => ?_)
      refine lv_iload hx hb dX3_leave_40 (lv_at hl 0 rfl) ?_
      refine lv_if_lt (tgt := 110) hx hb dX3_leave_42 (by decide) (fun c9 => ?_) (fun c9 => ?_)
      · have hv := hv.1 c9
        obtain ⟨x3_5, ex3_5⟩ : ∃ y : Int32, y = v3 + 1 := ⟨_, rfl⟩
        have hv := hv x3_5 ex3_5
        refine lv_iinc (v := x3_5) (lv' := [(3, .int x3_5), (4, .int x4_4), (0, .ref th), (1, .ref qh), (2, .int b2)]) hx hb dX3_leave_110 hl (k := 4) rfl (by rw [ex3_5]; rfl) (by decide) rfl (fun ls hl => ?_)
        refine lv_goto (tgt := 26) hx hb dX3_leave_113 (by decide) ?_
        exact ih x3_5 t_here t_arriving H locs ls hv hP hD hS (lv_sub hl [2, 3, 4, 0] rfl)
      · have hv := hv.2 c9
        refine lv_aload_n hx hb dX3_leave_45 rfl (lv_at hl 1 rfl) ?_
        refine va_get (D := D) (ci := 3) (v := .ref t0) (C := RX3) (T := TX3) (N := 4) hx hb hts iX3 hown hK hP 0 rfl rfl 0 (by decide) (hts _ kw_230) (fun _ h9 => h9) rfl dX3_leave_46 ?_
        refine lv_iload_n hx hb dX3_leave_49 rfl (lv_at hl 4 rfl) ?_
        obtain ⟨hi_6, hv⟩ := hv
        refine va_iald hx hb hK hP 1 0 rfl rfl hi_6 dX3_leave_50 ?_
        refine lv_aload_n hx hb dX3_leave_51 rfl (lv_at hl 2 rfl) ?_
        refine va_getN (D := D) (ci := 2) (v := .ref q6) (C := RX2) (T := TX2) (N := 9) hx hb hts iX2 hown hK hP 5 rfl rfl 6 (by decide) (va_Nw.use rfl (hN _ kw_122)) (fun _ h9 => h9) rfl dX3_leave_52 ?_
        refine lv_iload hx hb dX3_leave_55 (lv_at hl 0 rfl) ?_
        obtain ⟨hi_7, hv⟩ := hv
        refine va_iald hx hb hK hP 10 0 rfl rfl hi_7 dX3_leave_57 ?_
        refine va_mmin hx hb (hml.trans hl.1.symm) hown (hts _ kw_512) (hts _ kw_410) (hts _ kw_79) (hts _ kw_411) (Nat.le_of_ble_eq_true rfl) (Nat.le_of_ble_eq_true rfl) (Nat.le_of_ble_eq_true rfl) (Nat.le_of_ble_eq_true rfl) dX3_leave_58 ?_
        refine lv_topi (fun x5_8 ex5_8 => ?_)
        have hv := hv x5_8 ex5_8
        refine lv_istore (lv' := [(5, .int x5_8), (4, .int x4_4), (0, .ref th), (1, .ref qh), (2, .int b2), (3, .int v3)]) hx hb dX3_leave_61 hl (by decide) rfl (fun ls hl => ?_)
        refine lv_aload_n hx hb dX3_leave_63 rfl (lv_at hl 2 rfl) ?_
        refine va_get (D := D) (ci := 3) (v := .ref t0) (C := RX3) (T := TX3) (N := 4) hx hb hts iX3 hown hK hP 0 rfl rfl 0 (by decide) (hts _ kw_230) (fun _ h9 => h9) rfl dX3_leave_64 ?_
        refine lv_iload_n hx hb dX3_leave_67 rfl (lv_at hl 5 rfl) ?_
        refine lv_dup2_11 hx hb dX3_leave_68 rfl rfl ?_
        obtain ⟨hi_9, hv⟩ := hv
        refine va_iald hx hb hK hP 1 0 rfl rfl hi_9 dX3_leave_69 ?_
        refine lv_iload hx hb dX3_leave_70 (lv_at hl 0 rfl) ?_
        refine lv_isub hx hb dX3_leave_72 ?_
        obtain ⟨hi_10, hv⟩ := hv
        refine va_iast hx hb hK hP hD hS 1 0 rfl rfl hi_10 dX3_leave_73 (fun H locs hP hD hS => ?_)
        have hP : va_P D vwCl [(th, .inr (3, [.ref t0, .ref t1, .ref t2, .ref t3])), (t0, .inl (cI, 6, .inl (upd t_here v3.toNatClampNeg ((t_here v3.toNatClampNeg) - x5_8)))), (t1, .inl (cI, 30, .inl t_arriving)), (t2, .inl (cI, 6, .inl t_distance)), (t3, .inl (cI, 6, .inl t_firstPassage)), (qh, .inr (2, [.ref q0, .ref q1, .int q_safeRooms, .int q_passages, .ref q4, .ref q5, .ref q6, .ref q7, .ref q8])), (q0, .inl (cI, 6, .inl q_people)), (q1, .inl (cI, 6, .inl q_area)), (q4, .inl (cI, 10, .inl q_from)), (q5, .inl (cI, 10, .inl q_to)), (q6, .inl (cI, 10, .inl q_width)), (q7, .inl (cI, 10, .inl q_length)), (q8, .inl (cI, 10, .inl q_shut))] H := hP
        have hD : va_D A [(th, .inr (3, [.ref t0, .ref t1, .ref t2, .ref t3])), (t0, .inl (cI, 6, .inl (upd t_here v3.toNatClampNeg ((t_here v3.toNatClampNeg) - x5_8)))), (t1, .inl (cI, 30, .inl t_arriving)), (t2, .inl (cI, 6, .inl t_distance)), (t3, .inl (cI, 6, .inl t_firstPassage)), (qh, .inr (2, [.ref q0, .ref q1, .int q_safeRooms, .int q_passages, .ref q4, .ref q5, .ref q6, .ref q7, .ref q8])), (q0, .inl (cI, 6, .inl q_people)), (q1, .inl (cI, 6, .inl q_area)), (q4, .inl (cI, 10, .inl q_from)), (q5, .inl (cI, 10, .inl q_to)), (q6, .inl (cI, 10, .inl q_width)), (q7, .inl (cI, 10, .inl q_length)), (q8, .inl (cI, 10, .inl q_shut))] := hD
        refine lv_iload_n hx hb dX3_leave_74 rfl (lv_at hl 4 rfl) ?_
        refine lv_aload_n hx hb dX3_leave_75 rfl (lv_at hl 3 rfl) ?_
        refine va_getN (D := D) (ci := 2) (v := .ref q7) (C := RX2) (T := TX2) (N := 9) hx hb hts iX2 hown hK hP 5 rfl rfl 7 (by decide) (va_Nw.use rfl (hN _ kw_125)) (fun _ h9 => h9) rfl dX3_leave_76 ?_
        refine lv_iload hx hb dX3_leave_79 (lv_at hl 1 rfl) ?_
        obtain ⟨hi_11, hv⟩ := hv
        refine va_iald hx hb hK hP 11 0 rfl rfl hi_11 dX3_leave_81 ?_
        refine lv_iadd hx hb dX3_leave_82 ?_
        refine lv_iconst (v := 5) hx hb dX3_leave_83 (by decide) ?_
        refine lv_irem hx hb dX3_leave_84 (by decide) ?_
        refine lv_bipush (v := 6) hx hb dX3_leave_85 (by decide) ?_
        refine lv_imul hx hb dX3_leave_87 ?_
        refine lv_topi (fun x6_12 ex6_12 => ?_)
        have hv := hv x6_12 ex6_12
        refine lv_istore (lv' := [(6, .int x6_12), (5, .int x5_8), (4, .int x4_4), (0, .ref th), (1, .ref qh), (2, .int b2), (3, .int v3)]) hx hb dX3_leave_88 hl (by decide) rfl (fun ls hl => ?_)
        refine lv_aload_n hx hb dX3_leave_90 rfl (lv_at hl 3 rfl) ?_
        refine va_get (D := D) (ci := 3) (v := .ref t1) (C := RX3) (T := TX3) (N := 4) hx hb hts iX3 hown hK hP 0 rfl rfl 1 (by decide) (hts _ kw_231) (fun _ h9 => h9) rfl dX3_leave_91 ?_
        refine lv_iload hx hb dX3_leave_94 (lv_at hl 0 rfl) ?_
        refine lv_aload_n hx hb dX3_leave_96 rfl (lv_at hl 4 rfl) ?_
        refine va_getN (D := D) (ci := 2) (v := .ref q5) (C := RX2) (T := TX2) (N := 9) hx hb hts iX2 hown hK hP 5 rfl rfl 5 (by decide) (va_Nw.use rfl (hN _ kw_117)) (fun _ h9 => h9) rfl dX3_leave_97 ?_
        refine lv_iload hx hb dX3_leave_100 (lv_at hl 2 rfl) ?_
        obtain ⟨hi_13, hv⟩ := hv
        refine va_iald hx hb hK hP 9 0 rfl rfl hi_13 dX3_leave_102 ?_
        refine lv_iadd hx hb dX3_leave_103 ?_
        refine lv_dup2_11 hx hb dX3_leave_104 rfl rfl ?_
        obtain ⟨hi_14, hv⟩ := hv
        refine va_iald hx hb hK hP 2 0 rfl rfl hi_14 dX3_leave_105 ?_
        refine lv_iload hx hb dX3_leave_106 (lv_at hl 1 rfl) ?_
        refine lv_iadd hx hb dX3_leave_108 ?_
        obtain ⟨hi_15, hv⟩ := hv
        refine va_iast hx hb hK hP hD hS 2 0 rfl rfl hi_15 dX3_leave_109 (fun H locs hP hD hS => ?_)
        have hP : va_P D vwCl [(th, .inr (3, [.ref t0, .ref t1, .ref t2, .ref t3])), (t0, .inl (cI, 6, .inl (upd t_here v3.toNatClampNeg ((t_here v3.toNatClampNeg) - x5_8)))), (t1, .inl (cI, 30, .inl (upd t_arriving ((x6_12 + (q_to x4_4.toNatClampNeg))).toNatClampNeg ((t_arriving ((x6_12 + (q_to x4_4.toNatClampNeg))).toNatClampNeg) + x5_8)))), (t2, .inl (cI, 6, .inl t_distance)), (t3, .inl (cI, 6, .inl t_firstPassage)), (qh, .inr (2, [.ref q0, .ref q1, .int q_safeRooms, .int q_passages, .ref q4, .ref q5, .ref q6, .ref q7, .ref q8])), (q0, .inl (cI, 6, .inl q_people)), (q1, .inl (cI, 6, .inl q_area)), (q4, .inl (cI, 10, .inl q_from)), (q5, .inl (cI, 10, .inl q_to)), (q6, .inl (cI, 10, .inl q_width)), (q7, .inl (cI, 10, .inl q_length)), (q8, .inl (cI, 10, .inl q_shut))] H := hP
        have hD : va_D A [(th, .inr (3, [.ref t0, .ref t1, .ref t2, .ref t3])), (t0, .inl (cI, 6, .inl (upd t_here v3.toNatClampNeg ((t_here v3.toNatClampNeg) - x5_8)))), (t1, .inl (cI, 30, .inl (upd t_arriving ((x6_12 + (q_to x4_4.toNatClampNeg))).toNatClampNeg ((t_arriving ((x6_12 + (q_to x4_4.toNatClampNeg))).toNatClampNeg) + x5_8)))), (t2, .inl (cI, 6, .inl t_distance)), (t3, .inl (cI, 6, .inl t_firstPassage)), (qh, .inr (2, [.ref q0, .ref q1, .int q_safeRooms, .int q_passages, .ref q4, .ref q5, .ref q6, .ref q7, .ref q8])), (q0, .inl (cI, 6, .inl q_people)), (q1, .inl (cI, 6, .inl q_area)), (q4, .inl (cI, 10, .inl q_from)), (q5, .inl (cI, 10, .inl q_to)), (q6, .inl (cI, 10, .inl q_width)), (q7, .inl (cI, 10, .inl q_length)), (q8, .inl (cI, 10, .inl q_shut))] := hD
        obtain ⟨x3_16, ex3_16⟩ : ∃ y : Int32, y = v3 + 1 := ⟨_, rfl⟩
        have hv := hv x3_16 ex3_16
        refine lv_iinc (v := x3_16) (lv' := [(3, .int x3_16), (6, .int x6_12), (5, .int x5_8), (4, .int x4_4), (0, .ref th), (1, .ref qh), (2, .int b2)]) hx hb dX3_leave_110 hl (k := 6) rfl (by rw [ex3_16]; rfl) (by decide) rfl (fun ls hl => ?_)
        refine lv_goto (tgt := 26) hx hb dX3_leave_113 (by decide) ?_
        exact ih x3_16 (upd t_here v3.toNatClampNeg ((t_here v3.toNatClampNeg) - x5_8)) (upd t_arriving ((x6_12 + (q_to x4_4.toNatClampNeg))).toNatClampNeg ((t_arriving ((x6_12 + (q_to x4_4.toNatClampNeg))).toNatClampNeg) + x5_8)) H locs ls hv hP hD hS (lv_sub hl [4, 5, 6, 0] rfl)

def vc_X3_leave (a2 : Int32) (t_here : (Nat → Int32)) (t_arriving : (Nat → Int32)) (t_distance : (Nat → Int32)) (t_firstPassage : (Nat → Int32)) (q_safeRooms : Int32) (q_passages : Int32) (q_from : (Nat → Int32)) (q_to : (Nat → Int32)) (q_width : (Nat → Int32)) (q_length : (Nat → Int32)) (q_shut : (Nat → Int32)) (post : ((Nat → Int32) × (Nat → Int32) × (Nat → Int32) × (Nat → Int32)) → Prop) : Prop :=
  ((a2 = 0 → (vc_X3_findDistances a2 t_distance q_safeRooms q_passages q_from q_to q_length q_shut (fun (u_1 : (Nat → Int32)) => (vc_X3_findFirstPassages a2 u_1 t_firstPassage q_passages q_from q_to q_length q_shut (fun (u_2 : (Nat → Int32)) => (∃ n_19, vc_X3_leave_L26 (fun t_here_17 t_arriving_18 => post (t_here_17, t_arriving_18, u_1, u_2))  a2 u_2 q_to q_width q_length n_19 0 t_here t_arriving)))))) ∧ (¬ a2 = 0 → (vc_X2_anyShutsAt a2 q_passages q_shut (fun (r_21 : Int32) (u_20 : Unit) => ((r_21 = 0 → (∃ n_24, vc_X3_leave_L26 (fun t_here_22 t_arriving_23 => post (t_here_22, t_arriving_23, t_distance, t_firstPassage))  a2 t_firstPassage q_to q_width q_length n_24 0 t_here t_arriving)) ∧ (¬ r_21 = 0 → (vc_X3_findDistances a2 t_distance q_safeRooms q_passages q_from q_to q_length q_shut (fun (u_25 : (Nat → Int32)) => (vc_X3_findFirstPassages a2 u_25 t_firstPassage q_passages q_from q_to q_length q_shut (fun (u_26 : (Nat → Int32)) => (∃ n_29, vc_X3_leave_L26 (fun t_here_27 t_arriving_28 => post (t_here_27, t_arriving_28, u_25, u_26))  a2 u_26 q_to q_width q_length n_29 0 t_here t_arriving)))))))))))

set_option maxHeartbeats 4000000 in
set_option maxRecDepth 100000 in
theorem m_X3_leave (l : Launch) (D : va_G) (cI cZ : ClassId) (th t0 t1 t2 t3 qh q0 q1 q4 q5 q6 q7 q8 : Nat) (a2 : Int32) (t_here : (Nat → Int32)) (t_arriving : (Nat → Int32)) (t_distance : (Nat → Int32)) (t_firstPassage : (Nat → Int32)) (q_people : (Nat → Int32)) (q_area : (Nat → Int32)) (q_safeRooms : Int32) (q_passages : Int32) (q_from : (Nat → Int32)) (q_to : (Nat → Int32)) (q_width : (Nat → Int32)) (q_length : (Nat → Int32)) (q_shut : (Nat → Int32)) (sz : Nat) {post : ((Nat → Int32) × (Nat → Int32) × (Nat → Int32) × (Nat → Int32)) → Prop} (hv : vc_X3_leave a2 t_here t_arriving t_distance t_firstPassage q_safeRooms q_passages q_from q_to q_width q_length q_shut post) :
    Met l yX3_leave (Cond.code yX3_leave cX3_leave 7 none :: lw_good) ({ frames := 2, cells := 0, slots := 0, locals := 50 } : Room) (va_Pc [.ref th, .ref qh, .int a2] (lw_B D cI cZ [(th, .inr (3, [.ref t0, .ref t1, .ref t2, .ref t3])), (t0, .inl (cI, 6, .inl t_here)), (t1, .inl (cI, 30, .inl t_arriving)), (t2, .inl (cI, 6, .inl t_distance)), (t3, .inl (cI, 6, .inl t_firstPassage)), (qh, .inr (2, [.ref q0, .ref q1, .int q_safeRooms, .int q_passages, .ref q4, .ref q5, .ref q6, .ref q7, .ref q8])), (q0, .inl (cI, 6, .inl q_people)), (q1, .inl (cI, 6, .inl q_area)), (q4, .inl (cI, 10, .inl q_from)), (q5, .inl (cI, 10, .inl q_to)), (q6, .inl (cI, 10, .inl q_width)), (q7, .inl (cI, 10, .inl q_length)), (q8, .inl (cI, 10, .inl q_shut))] sz)) (lw_Qv D cI cZ (va_A [(th, .inr (3, [.ref t0, .ref t1, .ref t2, .ref t3])), (t0, .inl (cI, 6, .inl t_here)), (t1, .inl (cI, 30, .inl t_arriving)), (t2, .inl (cI, 6, .inl t_distance)), (t3, .inl (cI, 6, .inl t_firstPassage)), (qh, .inr (2, [.ref q0, .ref q1, .int q_safeRooms, .int q_passages, .ref q4, .ref q5, .ref q6, .ref q7, .ref q8])), (q0, .inl (cI, 6, .inl q_people)), (q1, .inl (cI, 6, .inl q_area)), (q4, .inl (cI, 10, .inl q_from)), (q5, .inl (cI, 10, .inl q_to)), (q6, .inl (cI, 10, .inl q_width)), (q7, .inl (cI, 10, .inl q_length)), (q8, .inl (cI, 10, .inl q_shut))] sz) (fun u : (Nat → Int32) × (Nat → Int32) × (Nat → Int32) × (Nat → Int32) => [(th, .inr (3, [.ref t0, .ref t1, .ref t2, .ref t3])), (t0, .inl (cI, 6, .inl u.1)), (t1, .inl (cI, 30, .inl u.2.1)), (t2, .inl (cI, 6, .inl u.2.2.1)), (t3, .inl (cI, 6, .inl u.2.2.2)), (qh, .inr (2, [.ref q0, .ref q1, .int q_safeRooms, .int q_passages, .ref q4, .ref q5, .ref q6, .ref q7, .ref q8])), (q0, .inl (cI, 6, .inl q_people)), (q1, .inl (cI, 6, .inl q_area)), (q4, .inl (cI, 10, .inl q_from)), (q5, .inl (cI, 10, .inl q_to)), (q6, .inl (cI, 10, .inl q_width)), (q7, .inl (cI, 10, .inl q_length)), (q8, .inl (cI, 10, .inl q_shut))]) post) 0 0 (va_A [(th, .inr (3, [.ref t0, .ref t1, .ref t2, .ref t3])), (t0, .inl (cI, 6, .inl t_here)), (t1, .inl (cI, 30, .inl t_arriving)), (t2, .inl (cI, 6, .inl t_distance)), (t3, .inl (cI, 6, .inl t_firstPassage)), (qh, .inr (2, [.ref q0, .ref q1, .int q_safeRooms, .int q_passages, .ref q4, .ref q5, .ref q6, .ref q7, .ref q8])), (q0, .inl (cI, 6, .inl q_people)), (q1, .inl (cI, 6, .inl q_area)), (q4, .inl (cI, 10, .inl q_from)), (q5, .inl (cI, 10, .inl q_to)), (q6, .inl (cI, 10, .inl q_width)), (q7, .inl (cI, 10, .inl q_length)), (q8, .inl (cI, 10, .inl q_shut))] sz) := by
  refine lw_met (Q := fun A => lw_Qv D cI cZ A (fun u : (Nat → Int32) × (Nat → Int32) × (Nat → Int32) × (Nat → Int32) => [(th, .inr (3, [.ref t0, .ref t1, .ref t2, .ref t3])), (t0, .inl (cI, 6, .inl u.1)), (t1, .inl (cI, 30, .inl u.2.1)), (t2, .inl (cI, 6, .inl u.2.2.1)), (t3, .inl (cI, 6, .inl u.2.2.2)), (qh, .inr (2, [.ref q0, .ref q1, .int q_safeRooms, .int q_passages, .ref q4, .ref q5, .ref q6, .ref q7, .ref q8])), (q0, .inl (cI, 6, .inl q_people)), (q1, .inl (cI, 6, .inl q_area)), (q4, .inl (cI, 10, .inl q_from)), (q5, .inl (cI, 10, .inl q_to)), (q6, .inl (cI, 10, .inl q_width)), (q7, .inl (cI, 10, .inl q_length)), (q8, .inl (cI, 10, .inl q_shut))]) post) (by decide) (Nat.le_of_ble_eq_true rfl) ?_
  intro p e s m below meth c A C hnm hP hD hS ls hl
  have C : lw_Cx D cI cZ p s m _ meth c cX3_leave 7 none RX3 A := C
  obtain ⟨hx, hb, hr, hml, hown, hts, hlocks, hN, hK, hA⟩ := id C
  have hl : lv_has ls 7 [(0, .ref th), (1, .ref qh), (2, .int a2)] := hl
  obtain ⟨H, hH⟩ : ∃ H, H = s.heap := ⟨_, rfl⟩
  rw [← hH] at hP
  have hS : va_S A s.heap H [] := by rw [hH]; exact hS
  suffices hgoal : W p l e ({ frames := 2, cells := 0, slots := 0, locals := 50 } : Room) s m #[.ref th, .ref qh, .int a2] below meth c H [] 0 0 (MQ below (lw_Qv D cI cZ A (fun u : (Nat → Int32) × (Nat → Int32) × (Nat → Int32) × (Nat → Int32) => [(th, .inr (3, [.ref t0, .ref t1, .ref t2, .ref t3])), (t0, .inl (cI, 6, .inl u.1)), (t1, .inl (cI, 30, .inl u.2.1)), (t2, .inl (cI, 6, .inl u.2.2.1)), (t3, .inl (cI, 6, .inl u.2.2.2)), (qh, .inr (2, [.ref q0, .ref q1, .int q_safeRooms, .int q_passages, .ref q4, .ref q5, .ref q6, .ref q7, .ref q8])), (q0, .inl (cI, 6, .inl q_people)), (q1, .inl (cI, 6, .inl q_area)), (q4, .inl (cI, 10, .inl q_from)), (q5, .inl (cI, 10, .inl q_to)), (q6, .inl (cI, 10, .inl q_width)), (q7, .inl (cI, 10, .inl q_length)), (q8, .inl (cI, 10, .inl q_shut))]) post) #[.ref th, .ref qh, .int a2] s 0 0 A) (F0 m 0 ls []) by rw [hH] at hgoal; exact hgoal
  obtain ⟨locs, hlo⟩ : ∃ locs : List Loc, locs = [] := ⟨_, rfl⟩
  rw [← hlo] at hS ⊢
  rw [vc_X3_leave] at hv
  refine lv_iload_n hx hb dX3_leave_0 rfl (lv_at hl 2 rfl) ?_
  refine lv_if_eq (tgt := 12) hx hb dX3_leave_1 (by decide) (fun c9 => ?_) (fun c9 => ?_)
  · have hv := hv.1 c9
    refine lv_aload_n hx hb dX3_leave_12 rfl (lv_at hl 0 rfl) ?_
    refine lv_aload_n hx hb dX3_leave_13 rfl (lv_at hl 1 rfl) ?_
    refine lv_iload_n hx hb dX3_leave_14 rfl (lv_at hl 2 rfl) ?_
    refine lw_callv (wr := []) C (lw_runV (own := RX3) (n := 2) C hP hD [0, 1, 2, 3, 4, 5, 6, 7, 8, 9, 10, 11, 12] rfl rfl 3 rfl rfl rfl (m_X3_findDistances l D cI cZ th t0 t1 t2 t3 qh q0 q1 q4 q5 q6 q7 q8 a2 t_here t_arriving t_distance t_firstPassage q_people q_area q_safeRooms q_passages q_from q_to q_width q_length q_shut H.size hv) kw_502 kw_499 kw_501 kw_31 kw_73 (by decide +kernel) rfl ⟨rfl, rfl, Nat.le_of_ble_eq_true rfl, Nat.le_of_ble_eq_true rfl, Nat.le_of_ble_eq_true rfl, Nat.le_of_ble_eq_true rfl⟩ hl.1 rfl (Nat.le_of_ble_eq_true rfl) dX3_leave_15) hP hD hS [0, 1, 2, 3, 4, 5, 6, 7, 8, 9, 10, 11, 12] [] rfl rfl rfl (by decide +kernel) (fun u_1 H locs hv hP hD hS => ?_)
    have hP : va_P D vwCl [(th, .inr (3, [.ref t0, .ref t1, .ref t2, .ref t3])), (t0, .inl (cI, 6, .inl t_here)), (t1, .inl (cI, 30, .inl t_arriving)), (t2, .inl (cI, 6, .inl u_1)), (t3, .inl (cI, 6, .inl t_firstPassage)), (qh, .inr (2, [.ref q0, .ref q1, .int q_safeRooms, .int q_passages, .ref q4, .ref q5, .ref q6, .ref q7, .ref q8])), (q0, .inl (cI, 6, .inl q_people)), (q1, .inl (cI, 6, .inl q_area)), (q4, .inl (cI, 10, .inl q_from)), (q5, .inl (cI, 10, .inl q_to)), (q6, .inl (cI, 10, .inl q_width)), (q7, .inl (cI, 10, .inl q_length)), (q8, .inl (cI, 10, .inl q_shut))] H := hP
    have hD : va_D A [(th, .inr (3, [.ref t0, .ref t1, .ref t2, .ref t3])), (t0, .inl (cI, 6, .inl t_here)), (t1, .inl (cI, 30, .inl t_arriving)), (t2, .inl (cI, 6, .inl u_1)), (t3, .inl (cI, 6, .inl t_firstPassage)), (qh, .inr (2, [.ref q0, .ref q1, .int q_safeRooms, .int q_passages, .ref q4, .ref q5, .ref q6, .ref q7, .ref q8])), (q0, .inl (cI, 6, .inl q_people)), (q1, .inl (cI, 6, .inl q_area)), (q4, .inl (cI, 10, .inl q_from)), (q5, .inl (cI, 10, .inl q_to)), (q6, .inl (cI, 10, .inl q_width)), (q7, .inl (cI, 10, .inl q_length)), (q8, .inl (cI, 10, .inl q_shut))] := hD
    refine lv_aload_n hx hb dX3_leave_18 rfl (lv_at hl 0 rfl) ?_
    refine lv_aload_n hx hb dX3_leave_19 rfl (lv_at hl 1 rfl) ?_
    refine lv_iload_n hx hb dX3_leave_20 rfl (lv_at hl 2 rfl) ?_
    refine lw_callv (wr := []) C (lw_runV (own := RX3) (n := 2) C hP hD [0, 1, 2, 3, 4, 5, 6, 7, 8, 9, 10, 11, 12] rfl rfl 3 rfl rfl rfl (m_X3_findFirstPassages l D cI cZ th t0 t1 t2 t3 qh q0 q1 q4 q5 q6 q7 q8 a2 t_here t_arriving u_1 t_firstPassage q_people q_area q_safeRooms q_passages q_from q_to q_width q_length q_shut H.size hv) kw_511 kw_508 kw_510 kw_33 kw_73 (by decide +kernel) rfl ⟨rfl, rfl, Nat.le_of_ble_eq_true rfl, Nat.le_of_ble_eq_true rfl, Nat.le_of_ble_eq_true rfl, Nat.le_of_ble_eq_true rfl⟩ hl.1 rfl (Nat.le_of_ble_eq_true rfl) dX3_leave_21) hP hD hS [0, 1, 2, 3, 4, 5, 6, 7, 8, 9, 10, 11, 12] [] rfl rfl rfl (by decide +kernel) (fun u_2 H locs hv hP hD hS => ?_)
    have hP : va_P D vwCl [(th, .inr (3, [.ref t0, .ref t1, .ref t2, .ref t3])), (t0, .inl (cI, 6, .inl t_here)), (t1, .inl (cI, 30, .inl t_arriving)), (t2, .inl (cI, 6, .inl u_1)), (t3, .inl (cI, 6, .inl u_2)), (qh, .inr (2, [.ref q0, .ref q1, .int q_safeRooms, .int q_passages, .ref q4, .ref q5, .ref q6, .ref q7, .ref q8])), (q0, .inl (cI, 6, .inl q_people)), (q1, .inl (cI, 6, .inl q_area)), (q4, .inl (cI, 10, .inl q_from)), (q5, .inl (cI, 10, .inl q_to)), (q6, .inl (cI, 10, .inl q_width)), (q7, .inl (cI, 10, .inl q_length)), (q8, .inl (cI, 10, .inl q_shut))] H := hP
    have hD : va_D A [(th, .inr (3, [.ref t0, .ref t1, .ref t2, .ref t3])), (t0, .inl (cI, 6, .inl t_here)), (t1, .inl (cI, 30, .inl t_arriving)), (t2, .inl (cI, 6, .inl u_1)), (t3, .inl (cI, 6, .inl u_2)), (qh, .inr (2, [.ref q0, .ref q1, .int q_safeRooms, .int q_passages, .ref q4, .ref q5, .ref q6, .ref q7, .ref q8])), (q0, .inl (cI, 6, .inl q_people)), (q1, .inl (cI, 6, .inl q_area)), (q4, .inl (cI, 10, .inl q_from)), (q5, .inl (cI, 10, .inl q_to)), (q6, .inl (cI, 10, .inl q_width)), (q7, .inl (cI, 10, .inl q_length)), (q8, .inl (cI, 10, .inl q_shut))] := hD
    refine lv_iconst (v := 0) hx hb dX3_leave_24 (by decide) ?_
    refine lv_istore_n (lv' := [(3, .int 0), (0, .ref th), (1, .ref qh), (2, .int a2)]) hx hb dX3_leave_25 rfl hl (by decide) rfl (fun ls hl => ?_)
    obtain ⟨n_19, hv⟩ := hv
    refine w_X3_leave_L26 th t0 t1 t2 t3 qh q0 q1 q4 q5 q6 q7 q8 a2 u_1 u_2 q_people q_area q_safeRooms q_passages q_from q_to q_width q_length q_shut C _ (fun t_here_17 t_arriving_18 H locs ls hv hP hD hS hl => ?_) n_19 0 t_here t_arriving H locs ls hv hP hD hS (lv_sub hl [1, 2, 3, 0] rfl)
    exact lw_vret C (t_here_17, t_arriving_18, u_1, u_2) hv hP hD hS dX3_leave_116
  · have hv := hv.2 c9
    refine lv_aload_n hx hb dX3_leave_4 rfl (lv_at hl 1 rfl) ?_
    refine lv_iload_n hx hb dX3_leave_5 rfl (lv_at hl 2 rfl) ?_
    refine lw_calli (wr := [(th, .inr (3, [.ref t0, .ref t1, .ref t2, .ref t3])), (t0, .inl (cI, 6, .inl t_here)), (t1, .inl (cI, 30, .inl t_arriving)), (t2, .inl (cI, 6, .inl t_distance)), (t3, .inl (cI, 6, .inl t_firstPassage))]) C (lw_runVN (own := RX3) (n := 1) C hP hD [5, 6, 7, 8, 9, 10, 11, 12] rfl rfl 2 rfl rfl rfl (m_X2_anyShutsAt l D cI cZ qh q0 q1 q4 q5 q6 q7 q8 a2 q_people q_area q_safeRooms q_passages q_from q_to q_width q_length q_shut H.size hv) kw_498 kw_495 kw_497 kw_30 kw_69 (by decide +kernel) rfl ⟨rfl, rfl, Nat.le_of_ble_eq_true rfl, Nat.le_of_ble_eq_true rfl, Nat.le_of_ble_eq_true rfl, Nat.le_of_ble_eq_true rfl⟩ hl.1 rfl (Nat.le_of_ble_eq_true rfl) dX3_leave_6) hP hD hS [5, 6, 7, 8, 9, 10, 11, 12] [0, 1, 2, 3, 4] rfl rfl rfl (by decide +kernel) (fun r_21 u_20 H locs hv hP hD hS => ?_)
    have hP : va_P D vwCl [(th, .inr (3, [.ref t0, .ref t1, .ref t2, .ref t3])), (t0, .inl (cI, 6, .inl t_here)), (t1, .inl (cI, 30, .inl t_arriving)), (t2, .inl (cI, 6, .inl t_distance)), (t3, .inl (cI, 6, .inl t_firstPassage)), (qh, .inr (2, [.ref q0, .ref q1, .int q_safeRooms, .int q_passages, .ref q4, .ref q5, .ref q6, .ref q7, .ref q8])), (q0, .inl (cI, 6, .inl q_people)), (q1, .inl (cI, 6, .inl q_area)), (q4, .inl (cI, 10, .inl q_from)), (q5, .inl (cI, 10, .inl q_to)), (q6, .inl (cI, 10, .inl q_width)), (q7, .inl (cI, 10, .inl q_length)), (q8, .inl (cI, 10, .inl q_shut))] H := hP.sub [0, 1, 2, 3, 4, 5, 6, 7, 8, 9, 10, 11, 12] rfl
    have hD : va_D A [(th, .inr (3, [.ref t0, .ref t1, .ref t2, .ref t3])), (t0, .inl (cI, 6, .inl t_here)), (t1, .inl (cI, 30, .inl t_arriving)), (t2, .inl (cI, 6, .inl t_distance)), (t3, .inl (cI, 6, .inl t_firstPassage)), (qh, .inr (2, [.ref q0, .ref q1, .int q_safeRooms, .int q_passages, .ref q4, .ref q5, .ref q6, .ref q7, .ref q8])), (q0, .inl (cI, 6, .inl q_people)), (q1, .inl (cI, 6, .inl q_area)), (q4, .inl (cI, 10, .inl q_from)), (q5, .inl (cI, 10, .inl q_to)), (q6, .inl (cI, 10, .inl q_width)), (q7, .inl (cI, 10, .inl q_length)), (q8, .inl (cI, 10, .inl q_shut))] := hD.sub [0, 1, 2, 3, 4, 5, 6, 7, 8, 9, 10, 11, 12] rfl rfl
    refine lv_if_eq (tgt := 24) hx hb dX3_leave_9 (by decide) (fun c9 => ?_) (fun c9 => ?_)
    · have hv := hv.1 c9
      refine lv_iconst (v := 0) hx hb dX3_leave_24 (by decide) ?_
      refine lv_istore_n (lv' := [(3, .int 0), (0, .ref th), (1, .ref qh), (2, .int a2)]) hx hb dX3_leave_25 rfl hl (by decide) rfl (fun ls hl => ?_)
      obtain ⟨n_24, hv⟩ := hv
      refine w_X3_leave_L26 th t0 t1 t2 t3 qh q0 q1 q4 q5 q6 q7 q8 a2 t_distance t_firstPassage q_people q_area q_safeRooms q_passages q_from q_to q_width q_length q_shut C _ (fun t_here_22 t_arriving_23 H locs ls hv hP hD hS hl => ?_) n_24 0 t_here t_arriving H locs ls hv hP hD hS (lv_sub hl [1, 2, 3, 0] rfl)
      exact lw_vret C (t_here_22, t_arriving_23, t_distance, t_firstPassage) hv hP hD hS dX3_leave_116
    · have hv := hv.2 c9
      refine lv_aload_n hx hb dX3_leave_12 rfl (lv_at hl 0 rfl) ?_
      refine lv_aload_n hx hb dX3_leave_13 rfl (lv_at hl 1 rfl) ?_
      refine lv_iload_n hx hb dX3_leave_14 rfl (lv_at hl 2 rfl) ?_
      refine lw_callv (wr := []) C (lw_runV (own := RX3) (n := 2) C hP hD [0, 1, 2, 3, 4, 5, 6, 7, 8, 9, 10, 11, 12] rfl rfl 3 rfl rfl rfl (m_X3_findDistances l D cI cZ th t0 t1 t2 t3 qh q0 q1 q4 q5 q6 q7 q8 a2 t_here t_arriving t_distance t_firstPassage q_people q_area q_safeRooms q_passages q_from q_to q_width q_length q_shut H.size hv) kw_502 kw_499 kw_501 kw_31 kw_73 (by decide +kernel) rfl ⟨rfl, rfl, Nat.le_of_ble_eq_true rfl, Nat.le_of_ble_eq_true rfl, Nat.le_of_ble_eq_true rfl, Nat.le_of_ble_eq_true rfl⟩ hl.1 rfl (Nat.le_of_ble_eq_true rfl) dX3_leave_15) hP hD hS [0, 1, 2, 3, 4, 5, 6, 7, 8, 9, 10, 11, 12] [] rfl rfl rfl (by decide +kernel) (fun u_25 H locs hv hP hD hS => ?_)
      have hP : va_P D vwCl [(th, .inr (3, [.ref t0, .ref t1, .ref t2, .ref t3])), (t0, .inl (cI, 6, .inl t_here)), (t1, .inl (cI, 30, .inl t_arriving)), (t2, .inl (cI, 6, .inl u_25)), (t3, .inl (cI, 6, .inl t_firstPassage)), (qh, .inr (2, [.ref q0, .ref q1, .int q_safeRooms, .int q_passages, .ref q4, .ref q5, .ref q6, .ref q7, .ref q8])), (q0, .inl (cI, 6, .inl q_people)), (q1, .inl (cI, 6, .inl q_area)), (q4, .inl (cI, 10, .inl q_from)), (q5, .inl (cI, 10, .inl q_to)), (q6, .inl (cI, 10, .inl q_width)), (q7, .inl (cI, 10, .inl q_length)), (q8, .inl (cI, 10, .inl q_shut))] H := hP
      have hD : va_D A [(th, .inr (3, [.ref t0, .ref t1, .ref t2, .ref t3])), (t0, .inl (cI, 6, .inl t_here)), (t1, .inl (cI, 30, .inl t_arriving)), (t2, .inl (cI, 6, .inl u_25)), (t3, .inl (cI, 6, .inl t_firstPassage)), (qh, .inr (2, [.ref q0, .ref q1, .int q_safeRooms, .int q_passages, .ref q4, .ref q5, .ref q6, .ref q7, .ref q8])), (q0, .inl (cI, 6, .inl q_people)), (q1, .inl (cI, 6, .inl q_area)), (q4, .inl (cI, 10, .inl q_from)), (q5, .inl (cI, 10, .inl q_to)), (q6, .inl (cI, 10, .inl q_width)), (q7, .inl (cI, 10, .inl q_length)), (q8, .inl (cI, 10, .inl q_shut))] := hD
      refine lv_aload_n hx hb dX3_leave_18 rfl (lv_at hl 0 rfl) ?_
      refine lv_aload_n hx hb dX3_leave_19 rfl (lv_at hl 1 rfl) ?_
      refine lv_iload_n hx hb dX3_leave_20 rfl (lv_at hl 2 rfl) ?_
      refine lw_callv (wr := []) C (lw_runV (own := RX3) (n := 2) C hP hD [0, 1, 2, 3, 4, 5, 6, 7, 8, 9, 10, 11, 12] rfl rfl 3 rfl rfl rfl (m_X3_findFirstPassages l D cI cZ th t0 t1 t2 t3 qh q0 q1 q4 q5 q6 q7 q8 a2 t_here t_arriving u_25 t_firstPassage q_people q_area q_safeRooms q_passages q_from q_to q_width q_length q_shut H.size hv) kw_511 kw_508 kw_510 kw_33 kw_73 (by decide +kernel) rfl ⟨rfl, rfl, Nat.le_of_ble_eq_true rfl, Nat.le_of_ble_eq_true rfl, Nat.le_of_ble_eq_true rfl, Nat.le_of_ble_eq_true rfl⟩ hl.1 rfl (Nat.le_of_ble_eq_true rfl) dX3_leave_21) hP hD hS [0, 1, 2, 3, 4, 5, 6, 7, 8, 9, 10, 11, 12] [] rfl rfl rfl (by decide +kernel) (fun u_26 H locs hv hP hD hS => ?_)
      have hP : va_P D vwCl [(th, .inr (3, [.ref t0, .ref t1, .ref t2, .ref t3])), (t0, .inl (cI, 6, .inl t_here)), (t1, .inl (cI, 30, .inl t_arriving)), (t2, .inl (cI, 6, .inl u_25)), (t3, .inl (cI, 6, .inl u_26)), (qh, .inr (2, [.ref q0, .ref q1, .int q_safeRooms, .int q_passages, .ref q4, .ref q5, .ref q6, .ref q7, .ref q8])), (q0, .inl (cI, 6, .inl q_people)), (q1, .inl (cI, 6, .inl q_area)), (q4, .inl (cI, 10, .inl q_from)), (q5, .inl (cI, 10, .inl q_to)), (q6, .inl (cI, 10, .inl q_width)), (q7, .inl (cI, 10, .inl q_length)), (q8, .inl (cI, 10, .inl q_shut))] H := hP
      have hD : va_D A [(th, .inr (3, [.ref t0, .ref t1, .ref t2, .ref t3])), (t0, .inl (cI, 6, .inl t_here)), (t1, .inl (cI, 30, .inl t_arriving)), (t2, .inl (cI, 6, .inl u_25)), (t3, .inl (cI, 6, .inl u_26)), (qh, .inr (2, [.ref q0, .ref q1, .int q_safeRooms, .int q_passages, .ref q4, .ref q5, .ref q6, .ref q7, .ref q8])), (q0, .inl (cI, 6, .inl q_people)), (q1, .inl (cI, 6, .inl q_area)), (q4, .inl (cI, 10, .inl q_from)), (q5, .inl (cI, 10, .inl q_to)), (q6, .inl (cI, 10, .inl q_width)), (q7, .inl (cI, 10, .inl q_length)), (q8, .inl (cI, 10, .inl q_shut))] := hD
      refine lv_iconst (v := 0) hx hb dX3_leave_24 (by decide) ?_
      refine lv_istore_n (lv' := [(3, .int 0), (0, .ref th), (1, .ref qh), (2, .int a2)]) hx hb dX3_leave_25 rfl hl (by decide) rfl (fun ls hl => ?_)
      obtain ⟨n_29, hv⟩ := hv
      refine w_X3_leave_L26 th t0 t1 t2 t3 qh q0 q1 q4 q5 q6 q7 q8 a2 u_25 u_26 q_people q_area q_safeRooms q_passages q_from q_to q_width q_length q_shut C _ (fun t_here_27 t_arriving_28 H locs ls hv hP hD hS hl => ?_) n_29 0 t_here t_arriving H locs ls hv hP hD hS (lv_sub hl [1, 2, 3, 0] rfl)
      exact lw_vret C (t_here_27, t_arriving_28, u_25, u_26) hv hP hD hS dX3_leave_116
