def vc_X2_allPeople_L4 (K : Int32 → Prop) (q_people : (Nat → Int32)) : Nat → Int32 → Int32 → Prop
  | 0, _, _ => False
  | n + 1, v1, v2 =>
    ((6 ≤ v2 → K v1) ∧ (¬ 6 ≤ v2 → (vp_in v2 6 ∧ (∀ x1_2 : Int32, x1_2 = (v1 + (q_people v2.toNatClampNeg)) → (∀ x2_3 : Int32, x2_3 = v2 + 1 → vc_X2_allPeople_L4 K q_people n x1_2 x2_3)))))

set_option maxHeartbeats 4000000 in
set_option maxRecDepth 100000 in
theorem w_X2_allPeople_L4 {p : Program} {l : Launch} {e : Env} {s : State} {m : MethodId} {args : Array Value} {below : List Frame} {meth : Method} {c : Code} {D : va_G} {cI cZ : ClassId} {A : Nat → Prop} {Q : State → Prop} (qh q0 q1 q4 q5 q6 q7 q8 : Nat) (q_people : (Nat → Int32)) (q_area : (Nat → Int32)) (q_safeRooms : Int32) (q_passages : Int32) (q_from : (Nat → Int32)) (q_to : (Nat → Int32)) (q_width : (Nat → Int32)) (q_length : (Nat → Int32)) (q_shut : (Nat → Int32)) (C : lw_Cx D cI cZ p s m args meth c cX2_allPeople 3 (some .int) RX2 A) (K : Int32 → Prop) (hKx : ∀ (k1 : Int32) (H : Heap) (locs : List Loc) (ls : Array Slot), K k1 → va_P D vwCl [(qh, .inr (2, [.ref q0, .ref q1, .int q_safeRooms, .int q_passages, .ref q4, .ref q5, .ref q6, .ref q7, .ref q8])), (q0, .inl (cI, 6, .inl q_people)), (q1, .inl (cI, 6, .inl q_area)), (q4, .inl (cI, 10, .inl q_from)), (q5, .inl (cI, 10, .inl q_to)), (q6, .inl (cI, 10, .inl q_width)), (q7, .inl (cI, 10, .inl q_length)), (q8, .inl (cI, 10, .inl q_shut))] H → va_D A [(qh, .inr (2, [.ref q0, .ref q1, .int q_safeRooms, .int q_passages, .ref q4, .ref q5, .ref q6, .ref q7, .ref q8])), (q0, .inl (cI, 6, .inl q_people)), (q1, .inl (cI, 6, .inl q_area)), (q4, .inl (cI, 10, .inl q_from)), (q5, .inl (cI, 10, .inl q_to)), (q6, .inl (cI, 10, .inl q_width)), (q7, .inl (cI, 10, .inl q_length)), (q8, .inl (cI, 10, .inl q_shut))] → va_S A s.heap H locs → lv_has ls 3 [(1, .int k1)] → W p l e ({ frames := 0, cells := 0, slots := 0, locals := 0 } : Room) s m args below meth c H locs 0 0 Q (F0 m 25 ls [])) :
    ∀ (n : Nat) (v1 : Int32) (v2 : Int32) (H : Heap) (locs : List Loc) (ls : Array Slot), vc_X2_allPeople_L4 K q_people n v1 v2 → va_P D vwCl [(qh, .inr (2, [.ref q0, .ref q1, .int q_safeRooms, .int q_passages, .ref q4, .ref q5, .ref q6, .ref q7, .ref q8])), (q0, .inl (cI, 6, .inl q_people)), (q1, .inl (cI, 6, .inl q_area)), (q4, .inl (cI, 10, .inl q_from)), (q5, .inl (cI, 10, .inl q_to)), (q6, .inl (cI, 10, .inl q_width)), (q7, .inl (cI, 10, .inl q_length)), (q8, .inl (cI, 10, .inl q_shut))] H → va_D A [(qh, .inr (2, [.ref q0, .ref q1, .int q_safeRooms, .int q_passages, .ref q4, .ref q5, .ref q6, .ref q7, .ref q8])), (q0, .inl (cI, 6, .inl q_people)), (q1, .inl (cI, 6, .inl q_area)), (q4, .inl (cI, 10, .inl q_from)), (q5, .inl (cI, 10, .inl q_to)), (q6, .inl (cI, 10, .inl q_width)), (q7, .inl (cI, 10, .inl q_length)), (q8, .inl (cI, 10, .inl q_shut))] → va_S A s.heap H locs → lv_has ls 3 [(0, .ref qh), (1, .int v1), (2, .int v2)] → W p l e ({ frames := 0, cells := 0, slots := 0, locals := 0 } : Room) s m args below meth c H locs 0 0 Q (F0 m 4 ls []) := by
  obtain ⟨hx, hb, hr, hml, hown, hts, hlocks, hN, hK, hA⟩ := id C
  intro n
  induction n with
  | zero =>
    intro v1 v2 H locs ls hv
    exact False.elim hv
  | succ n ih =>
    intro v1 v2 H locs ls hv hP hD hS hl
    rw [vc_X2_allPeople_L4] at hv
    refine lv_iload_n hx hb dX2_allPeople_4 rfl (lv_at hl 2 rfl) ?_
    refine lv_bipush (v := 6) hx hb dX2_allPeople_5 (by decide) ?_
    refine lv_icmp_ge (tgt := 25) hx hb dX2_allPeople_7 (by decide) (fun c9 => ?_) (fun c9 => ?_)
    · have hv := hv.1 c9
      exact hKx v1 H locs ls hv hP hD hS (lv_sub hl [1] rfl)
    · have hv := hv.2 c9
      refine lv_iload_n hx hb dX2_allPeople_10 rfl (lv_at hl 1 rfl) ?_
      refine lv_aload_n hx hb dX2_allPeople_11 rfl (lv_at hl 0 rfl) ?_
      refine va_get (D := D) (ci := 2) (v := .ref q0) (C := RX2) (T := TX2) (N := 9) hx hb hts iX2 hown hK hP 0 rfl rfl 0 (by decide) (hts _ kw_97) (fun _ h9 => h9) rfl dX2_allPeople_12 ?_
      refine lv_iload_n hx hb dX2_allPeople_15 rfl (lv_at hl 2 rfl) ?_
      obtain ⟨hi_1, hv⟩ := hv
      refine va_iald hx hb hK hP 1 0 rfl rfl hi_1 dX2_allPeople_16 ?_
      refine lv_iadd hx hb dX2_allPeople_17 ?_
      refine lv_topi (fun x1_2 ex1_2 => ?_)
      have hv := hv x1_2 ex1_2
      refine lv_istore_n (lv' := [(1, .int x1_2), (0, .ref qh), (2, .int v2)]) hx hb dX2_allPeople_18 rfl hl (by decide) rfl (fun ls hl => ?_)
      obtain ⟨x2_3, ex2_3⟩ : ∃ y : Int32, y = v2 + 1 := ⟨_, rfl⟩
      have hv := hv x2_3 ex2_3
      refine lv_iinc (v := x2_3) (lv' := [(2, .int x2_3), (1, .int x1_2), (0, .ref qh)]) hx hb dX2_allPeople_19 hl (k := 2) rfl (by rw [ex2_3]; rfl) (by decide) rfl (fun ls hl => ?_)
      refine lv_goto (tgt := 4) hx hb dX2_allPeople_22 (by decide) ?_
      exact ih x1_2 x2_3 H locs ls hv hP hD hS (lv_sub hl [2, 1, 0] rfl)

def vc_X2_allPeople (q_people : (Nat → Int32)) (post : Int32 → Unit → Prop) : Prop :=
  (∃ n_5, vc_X2_allPeople_L4 (fun k1_4 => post k1_4 ())  q_people n_5 0 0)

set_option maxHeartbeats 4000000 in
set_option maxRecDepth 100000 in
theorem m_X2_allPeople (l : Launch) (D : va_G) (cI cZ : ClassId) (qh q0 q1 q4 q5 q6 q7 q8 : Nat) (q_people : (Nat → Int32)) (q_area : (Nat → Int32)) (q_safeRooms : Int32) (q_passages : Int32) (q_from : (Nat → Int32)) (q_to : (Nat → Int32)) (q_width : (Nat → Int32)) (q_length : (Nat → Int32)) (q_shut : (Nat → Int32)) (sz : Nat) {post : Int32 → Unit → Prop} (hv : vc_X2_allPeople q_people post) :
    Met l yX2_allPeople (Cond.code yX2_allPeople cX2_allPeople 3 (some .int) :: lw_good) ({ frames := 0, cells := 0, slots := 0, locals := 0 } : Room) (va_Pc [.ref qh] (lw_B D cI cZ [(qh, .inr (2, [.ref q0, .ref q1, .int q_safeRooms, .int q_passages, .ref q4, .ref q5, .ref q6, .ref q7, .ref q8])), (q0, .inl (cI, 6, .inl q_people)), (q1, .inl (cI, 6, .inl q_area)), (q4, .inl (cI, 10, .inl q_from)), (q5, .inl (cI, 10, .inl q_to)), (q6, .inl (cI, 10, .inl q_width)), (q7, .inl (cI, 10, .inl q_length)), (q8, .inl (cI, 10, .inl q_shut))] sz)) (lw_Qi D cI cZ (va_A [(qh, .inr (2, [.ref q0, .ref q1, .int q_safeRooms, .int q_passages, .ref q4, .ref q5, .ref q6, .ref q7, .ref q8])), (q0, .inl (cI, 6, .inl q_people)), (q1, .inl (cI, 6, .inl q_area)), (q4, .inl (cI, 10, .inl q_from)), (q5, .inl (cI, 10, .inl q_to)), (q6, .inl (cI, 10, .inl q_width)), (q7, .inl (cI, 10, .inl q_length)), (q8, .inl (cI, 10, .inl q_shut))] sz) (fun u : Unit => [(qh, .inr (2, [.ref q0, .ref q1, .int q_safeRooms, .int q_passages, .ref q4, .ref q5, .ref q6, .ref q7, .ref q8])), (q0, .inl (cI, 6, .inl q_people)), (q1, .inl (cI, 6, .inl q_area)), (q4, .inl (cI, 10, .inl q_from)), (q5, .inl (cI, 10, .inl q_to)), (q6, .inl (cI, 10, .inl q_width)), (q7, .inl (cI, 10, .inl q_length)), (q8, .inl (cI, 10, .inl q_shut))]) post) 0 0 (va_A [(qh, .inr (2, [.ref q0, .ref q1, .int q_safeRooms, .int q_passages, .ref q4, .ref q5, .ref q6, .ref q7, .ref q8])), (q0, .inl (cI, 6, .inl q_people)), (q1, .inl (cI, 6, .inl q_area)), (q4, .inl (cI, 10, .inl q_from)), (q5, .inl (cI, 10, .inl q_to)), (q6, .inl (cI, 10, .inl q_width)), (q7, .inl (cI, 10, .inl q_length)), (q8, .inl (cI, 10, .inl q_shut))] sz) := by
  refine lw_met (Q := fun A => lw_Qi D cI cZ A (fun u : Unit => [(qh, .inr (2, [.ref q0, .ref q1, .int q_safeRooms, .int q_passages, .ref q4, .ref q5, .ref q6, .ref q7, .ref q8])), (q0, .inl (cI, 6, .inl q_people)), (q1, .inl (cI, 6, .inl q_area)), (q4, .inl (cI, 10, .inl q_from)), (q5, .inl (cI, 10, .inl q_to)), (q6, .inl (cI, 10, .inl q_width)), (q7, .inl (cI, 10, .inl q_length)), (q8, .inl (cI, 10, .inl q_shut))]) post) (by decide) (Nat.le_of_ble_eq_true rfl) ?_
  intro p e s m below meth c A C hnm hP hD hS ls hl
  have C : lw_Cx D cI cZ p s m _ meth c cX2_allPeople 3 (some .int) RX2 A := C
  obtain ⟨hx, hb, hr, hml, hown, hts, hlocks, hN, hK, hA⟩ := id C
  have hl : lv_has ls 3 [(0, .ref qh)] := hl
  obtain ⟨H, hH⟩ : ∃ H, H = s.heap := ⟨_, rfl⟩
  rw [← hH] at hP
  have hS : va_S A s.heap H [] := by rw [hH]; exact hS
  suffices hgoal : W p l e ({ frames := 0, cells := 0, slots := 0, locals := 0 } : Room) s m #[.ref qh] below meth c H [] 0 0 (MQ below (lw_Qi D cI cZ A (fun u : Unit => [(qh, .inr (2, [.ref q0, .ref q1, .int q_safeRooms, .int q_passages, .ref q4, .ref q5, .ref q6, .ref q7, .ref q8])), (q0, .inl (cI, 6, .inl q_people)), (q1, .inl (cI, 6, .inl q_area)), (q4, .inl (cI, 10, .inl q_from)), (q5, .inl (cI, 10, .inl q_to)), (q6, .inl (cI, 10, .inl q_width)), (q7, .inl (cI, 10, .inl q_length)), (q8, .inl (cI, 10, .inl q_shut))]) post) #[.ref qh] s 0 0 A) (F0 m 0 ls []) by rw [hH] at hgoal; exact hgoal
  obtain ⟨locs, hlo⟩ : ∃ locs : List Loc, locs = [] := ⟨_, rfl⟩
  rw [← hlo] at hS ⊢
  rw [vc_X2_allPeople] at hv
  refine lv_iconst (v := 0) hx hb dX2_allPeople_0 (by decide) ?_
  refine lv_istore_n (lv' := [(1, .int 0), (0, .ref qh)]) hx hb dX2_allPeople_1 rfl hl (by decide) rfl (fun ls hl => ?_)
  refine lv_iconst (v := 0) hx hb dX2_allPeople_2 (by decide) ?_
  refine lv_istore_n (lv' := [(2, .int 0), (1, .int 0), (0, .ref qh)]) hx hb dX2_allPeople_3 rfl hl (by decide) rfl (fun ls hl => ?_)
  obtain ⟨n_5, hv⟩ := hv
  refine w_X2_allPeople_L4 qh q0 q1 q4 q5 q6 q7 q8 q_people q_area q_safeRooms q_passages q_from q_to q_width q_length q_shut C _ (fun k1_4 H locs ls hv hP hD hS hl => ?_) n_5 0 0 H locs ls hv hP hD hS (lv_sub hl [2, 1, 0] rfl)
  refine lv_iload_n hx hb dX2_allPeople_25 rfl (lv_at hl 0 rfl) ?_
  exact lw_iret C () hv hP hD hS dX2_allPeople_26

def vc_X2_addPassage (a1 : Int32) (a2 : Int32) (a3 : Int32) (a4 : Int32) (q_passages : Int32) (q_from : (Nat → Int32)) (q_to : (Nat → Int32)) (q_width : (Nat → Int32)) (q_length : (Nat → Int32)) (q_shut : (Nat → Int32)) (post : (Int32 × (Nat → Int32) × (Nat → Int32) × (Nat → Int32) × (Nat → Int32) × (Nat → Int32)) → Prop) : Prop :=
  ((q_passages < 10 → (vp_in q_passages 10 ∧ (vp_in q_passages 10 ∧ (vp_in q_passages 10 ∧ (vp_in q_passages 10 ∧ (vp_in q_passages 10 ∧ post ((q_passages + 1), (upd q_from q_passages.toNatClampNeg a1), (upd q_to q_passages.toNatClampNeg a2), (upd q_width q_passages.toNatClampNeg a3), (upd q_length q_passages.toNatClampNeg a4), (upd q_shut q_passages.toNatClampNeg 1000)))))))) ∧ (¬ q_passages < 10 → post (q_passages, q_from, q_to, q_width, q_length, q_shut)))

set_option maxHeartbeats 4000000 in
set_option maxRecDepth 100000 in
theorem m_X2_addPassage (l : Launch) (D : va_G) (cI cZ : ClassId) (qh q0 q1 q4 q5 q6 q7 q8 : Nat) (a1 : Int32) (a2 : Int32) (a3 : Int32) (a4 : Int32) (q_people : (Nat → Int32)) (q_area : (Nat → Int32)) (q_safeRooms : Int32) (q_passages : Int32) (q_from : (Nat → Int32)) (q_to : (Nat → Int32)) (q_width : (Nat → Int32)) (q_length : (Nat → Int32)) (q_shut : (Nat → Int32)) (sz : Nat) {post : (Int32 × (Nat → Int32) × (Nat → Int32) × (Nat → Int32) × (Nat → Int32) × (Nat → Int32)) → Prop} (hv : vc_X2_addPassage a1 a2 a3 a4 q_passages q_from q_to q_width q_length q_shut post) :
    Met l yX2_addPassage (Cond.code yX2_addPassage cX2_addPassage 5 none :: lw_good) ({ frames := 0, cells := 0, slots := 0, locals := 0 } : Room) (va_Pc [.ref qh, .int a1, .int a2, .int a3, .int a4] (lw_B D cI cZ [(qh, .inr (2, [.ref q0, .ref q1, .int q_safeRooms, .int q_passages, .ref q4, .ref q5, .ref q6, .ref q7, .ref q8])), (q0, .inl (cI, 6, .inl q_people)), (q1, .inl (cI, 6, .inl q_area)), (q4, .inl (cI, 10, .inl q_from)), (q5, .inl (cI, 10, .inl q_to)), (q6, .inl (cI, 10, .inl q_width)), (q7, .inl (cI, 10, .inl q_length)), (q8, .inl (cI, 10, .inl q_shut))] sz)) (lw_Qv D cI cZ (va_A [(qh, .inr (2, [.ref q0, .ref q1, .int q_safeRooms, .int q_passages, .ref q4, .ref q5, .ref q6, .ref q7, .ref q8])), (q0, .inl (cI, 6, .inl q_people)), (q1, .inl (cI, 6, .inl q_area)), (q4, .inl (cI, 10, .inl q_from)), (q5, .inl (cI, 10, .inl q_to)), (q6, .inl (cI, 10, .inl q_width)), (q7, .inl (cI, 10, .inl q_length)), (q8, .inl (cI, 10, .inl q_shut))] sz) (fun u : Int32 × (Nat → Int32) × (Nat → Int32) × (Nat → Int32) × (Nat → Int32) × (Nat → Int32) => [(qh, .inr (2, [.ref q0, .ref q1, .int q_safeRooms, .int u.1, .ref q4, .ref q5, .ref q6, .ref q7, .ref q8])), (q0, .inl (cI, 6, .inl q_people)), (q1, .inl (cI, 6, .inl q_area)), (q4, .inl (cI, 10, .inl u.2.1)), (q5, .inl (cI, 10, .inl u.2.2.1)), (q6, .inl (cI, 10, .inl u.2.2.2.1)), (q7, .inl (cI, 10, .inl u.2.2.2.2.1)), (q8, .inl (cI, 10, .inl u.2.2.2.2.2))]) post) 0 0 (va_A [(qh, .inr (2, [.ref q0, .ref q1, .int q_safeRooms, .int q_passages, .ref q4, .ref q5, .ref q6, .ref q7, .ref q8])), (q0, .inl (cI, 6, .inl q_people)), (q1, .inl (cI, 6, .inl q_area)), (q4, .inl (cI, 10, .inl q_from)), (q5, .inl (cI, 10, .inl q_to)), (q6, .inl (cI, 10, .inl q_width)), (q7, .inl (cI, 10, .inl q_length)), (q8, .inl (cI, 10, .inl q_shut))] sz) := by
  refine lw_met (Q := fun A => lw_Qv D cI cZ A (fun u : Int32 × (Nat → Int32) × (Nat → Int32) × (Nat → Int32) × (Nat → Int32) × (Nat → Int32) => [(qh, .inr (2, [.ref q0, .ref q1, .int q_safeRooms, .int u.1, .ref q4, .ref q5, .ref q6, .ref q7, .ref q8])), (q0, .inl (cI, 6, .inl q_people)), (q1, .inl (cI, 6, .inl q_area)), (q4, .inl (cI, 10, .inl u.2.1)), (q5, .inl (cI, 10, .inl u.2.2.1)), (q6, .inl (cI, 10, .inl u.2.2.2.1)), (q7, .inl (cI, 10, .inl u.2.2.2.2.1)), (q8, .inl (cI, 10, .inl u.2.2.2.2.2))]) post) (by decide) (Nat.le_of_ble_eq_true rfl) ?_
  intro p e s m below meth c A C hnm hP hD hS ls hl
  have C : lw_Cx D cI cZ p s m _ meth c cX2_addPassage 5 none RX2 A := C
  obtain ⟨hx, hb, hr, hml, hown, hts, hlocks, hN, hK, hA⟩ := id C
  have hl : lv_has ls 5 [(0, .ref qh), (1, .int a1), (2, .int a2), (3, .int a3), (4, .int a4)] := hl
  obtain ⟨H, hH⟩ : ∃ H, H = s.heap := ⟨_, rfl⟩
  rw [← hH] at hP
  have hS : va_S A s.heap H [] := by rw [hH]; exact hS
  suffices hgoal : W p l e ({ frames := 0, cells := 0, slots := 0, locals := 0 } : Room) s m #[.ref qh, .int a1, .int a2, .int a3, .int a4] below meth c H [] 0 0 (MQ below (lw_Qv D cI cZ A (fun u : Int32 × (Nat → Int32) × (Nat → Int32) × (Nat → Int32) × (Nat → Int32) × (Nat → Int32) => [(qh, .inr (2, [.ref q0, .ref q1, .int q_safeRooms, .int u.1, .ref q4, .ref q5, .ref q6, .ref q7, .ref q8])), (q0, .inl (cI, 6, .inl q_people)), (q1, .inl (cI, 6, .inl q_area)), (q4, .inl (cI, 10, .inl u.2.1)), (q5, .inl (cI, 10, .inl u.2.2.1)), (q6, .inl (cI, 10, .inl u.2.2.2.1)), (q7, .inl (cI, 10, .inl u.2.2.2.2.1)), (q8, .inl (cI, 10, .inl u.2.2.2.2.2))]) post) #[.ref qh, .int a1, .int a2, .int a3, .int a4] s 0 0 A) (F0 m 0 ls []) by rw [hH] at hgoal; exact hgoal
  obtain ⟨locs, hlo⟩ : ∃ locs : List Loc, locs = [] := ⟨_, rfl⟩
  rw [← hlo] at hS ⊢
  rw [vc_X2_addPassage] at hv
  refine lv_aload_n hx hb dX2_addPassage_0 rfl (lv_at hl 0 rfl) ?_
  refine va_get (D := D) (ci := 2) (v := .int q_passages) (C := RX2) (T := TX2) (N := 9) hx hb hts iX2 hown hK hP 0 rfl rfl 3 (by decide) (hts _ kw_107) (fun _ h9 => h9) rfl dX2_addPassage_1 ?_
  refine lv_bipush (v := 10) hx hb dX2_addPassage_4 (by decide) ?_
  refine lv_icmp_lt (tgt := 10) hx hb dX2_addPassage_6 (by decide) (fun c9 => ?_) (fun c9 => ?_)
  · have hv := hv.1 c9
    refine lv_aload_n hx hb dX2_addPassage_10 rfl (lv_at hl 0 rfl) ?_
    refine va_get (D := D) (ci := 2) (v := .ref q4) (C := RX2) (T := TX2) (N := 9) hx hb hts iX2 hown hK hP 0 rfl rfl 4 (by decide) (hts _ kw_111) (fun _ h9 => h9) rfl dX2_addPassage_11 ?_
    refine lv_aload_n hx hb dX2_addPassage_14 rfl (lv_at hl 0 rfl) ?_
    refine va_get (D := D) (ci := 2) (v := .int q_passages) (C := RX2) (T := TX2) (N := 9) hx hb hts iX2 hown hK hP 0 rfl rfl 3 (by decide) (hts _ kw_107) (fun _ h9 => h9) rfl dX2_addPassage_15 ?_
    refine lv_iload_n hx hb dX2_addPassage_18 rfl (lv_at hl 1 rfl) ?_
    obtain ⟨hi_1, hv⟩ := hv
    refine va_iast hx hb hK hP hD hS 3 0 rfl rfl hi_1 dX2_addPassage_19 (fun H locs hP hD hS => ?_)
    have hP : va_P D vwCl [(qh, .inr (2, [.ref q0, .ref q1, .int q_safeRooms, .int q_passages, .ref q4, .ref q5, .ref q6, .ref q7, .ref q8])), (q0, .inl (cI, 6, .inl q_people)), (q1, .inl (cI, 6, .inl q_area)), (q4, .inl (cI, 10, .inl (upd q_from q_passages.toNatClampNeg a1))), (q5, .inl (cI, 10, .inl q_to)), (q6, .inl (cI, 10, .inl q_width)), (q7, .inl (cI, 10, .inl q_length)), (q8, .inl (cI, 10, .inl q_shut))] H := hP
    have hD : va_D A [(qh, .inr (2, [.ref q0, .ref q1, .int q_safeRooms, .int q_passages, .ref q4, .ref q5, .ref q6, .ref q7, .ref q8])), (q0, .inl (cI, 6, .inl q_people)), (q1, .inl (cI, 6, .inl q_area)), (q4, .inl (cI, 10, .inl (upd q_from q_passages.toNatClampNeg a1))), (q5, .inl (cI, 10, .inl q_to)), (q6, .inl (cI, 10, .inl q_width)), (q7, .inl (cI, 10, .inl q_length)), (q8, .inl (cI, 10, .inl q_shut))] := hD
    refine lv_aload_n hx hb dX2_addPassage_20 rfl (lv_at hl 0 rfl) ?_
    refine va_get (D := D) (ci := 2) (v := .ref q5) (C := RX2) (T := TX2) (N := 9) hx hb hts iX2 hown hK hP 0 rfl rfl 5 (by decide) (hts _ kw_115) (fun _ h9 => h9) rfl dX2_addPassage_21 ?_
    refine lv_aload_n hx hb dX2_addPassage_24 rfl (lv_at hl 0 rfl) ?_
    refine va_get (D := D) (ci := 2) (v := .int q_passages) (C := RX2) (T := TX2) (N := 9) hx hb hts iX2 hown hK hP 0 rfl rfl 3 (by decide) (hts _ kw_107) (fun _ h9 => h9) rfl dX2_addPassage_25 ?_
    refine lv_iload_n hx hb dX2_addPassage_28 rfl (lv_at hl 2 rfl) ?_
    obtain ⟨hi_2, hv⟩ := hv
    refine va_iast hx hb hK hP hD hS 4 0 rfl rfl hi_2 dX2_addPassage_29 (fun H locs hP hD hS => ?_)
    have hP : va_P D vwCl [(qh, .inr (2, [.ref q0, .ref q1, .int q_safeRooms, .int q_passages, .ref q4, .ref q5, .ref q6, .ref q7, .ref q8])), (q0, .inl (cI, 6, .inl q_people)), (q1, .inl (cI, 6, .inl q_area)), (q4, .inl (cI, 10, .inl (upd q_from q_passages.toNatClampNeg a1))), (q5, .inl (cI, 10, .inl (upd q_to q_passages.toNatClampNeg a2))), (q6, .inl (cI, 10, .inl q_width)), (q7, .inl (cI, 10, .inl q_length)), (q8, .inl (cI, 10, .inl q_shut))] H := hP
    have hD : va_D A [(qh, .inr (2, [.ref q0, .ref q1, .int q_safeRooms, .int q_passages, .ref q4, .ref q5, .ref q6, .ref q7, .ref q8])), (q0, .inl (cI, 6, .inl q_people)), (q1, .inl (cI, 6, .inl q_area)), (q4, .inl (cI, 10, .inl (upd q_from q_passages.toNatClampNeg a1))), (q5, .inl (cI, 10, .inl (upd q_to q_passages.toNatClampNeg a2))), (q6, .inl (cI, 10, .inl q_width)), (q7, .inl (cI, 10, .inl q_length)), (q8, .inl (cI, 10, .inl q_shut))] := hD
    refine lv_aload_n hx hb dX2_addPassage_30 rfl (lv_at hl 0 rfl) ?_
    refine va_get (D := D) (ci := 2) (v := .ref q6) (C := RX2) (T := TX2) (N := 9) hx hb hts iX2 hown hK hP 0 rfl rfl 6 (by decide) (hts _ kw_119) (fun _ h9 => h9) rfl dX2_addPassage_31 ?_
    refine lv_aload_n hx hb dX2_addPassage_34 rfl (lv_at hl 0 rfl) ?_
    refine va_get (D := D) (ci := 2) (v := .int q_passages) (C := RX2) (T := TX2) (N := 9) hx hb hts iX2 hown hK hP 0 rfl rfl 3 (by decide) (hts _ kw_107) (fun _ h9 => h9) rfl dX2_addPassage_35 ?_
    refine lv_iload_n hx hb dX2_addPassage_38 rfl (lv_at hl 3 rfl) ?_
    obtain ⟨hi_3, hv⟩ := hv
    refine va_iast hx hb hK hP hD hS 5 0 rfl rfl hi_3 dX2_addPassage_39 (fun H locs hP hD hS => ?_)
    have hP : va_P D vwCl [(qh, .inr (2, [.ref q0, .ref q1, .int q_safeRooms, .int q_passages, .ref q4, .ref q5, .ref q6, .ref q7, .ref q8])), (q0, .inl (cI, 6, .inl q_people)), (q1, .inl (cI, 6, .inl q_area)), (q4, .inl (cI, 10, .inl (upd q_from q_passages.toNatClampNeg a1))), (q5, .inl (cI, 10, .inl (upd q_to q_passages.toNatClampNeg a2))), (q6, .inl (cI, 10, .inl (upd q_width q_passages.toNatClampNeg a3))), (q7, .inl (cI, 10, .inl q_length)), (q8, .inl (cI, 10, .inl q_shut))] H := hP
    have hD : va_D A [(qh, .inr (2, [.ref q0, .ref q1, .int q_safeRooms, .int q_passages, .ref q4, .ref q5, .ref q6, .ref q7, .ref q8])), (q0, .inl (cI, 6, .inl q_people)), (q1, .inl (cI, 6, .inl q_area)), (q4, .inl (cI, 10, .inl (upd q_from q_passages.toNatClampNeg a1))), (q5, .inl (cI, 10, .inl (upd q_to q_passages.toNatClampNeg a2))), (q6, .inl (cI, 10, .inl (upd q_width q_passages.toNatClampNeg a3))), (q7, .inl (cI, 10, .inl q_length)), (q8, .inl (cI, 10, .inl q_shut))] := hD
    refine lv_aload_n hx hb dX2_addPassage_40 rfl (lv_at hl 0 rfl) ?_
    refine va_get (D := D) (ci := 2) (v := .ref q7) (C := RX2) (T := TX2) (N := 9) hx hb hts iX2 hown hK hP 0 rfl rfl 7 (by decide) (hts _ kw_123) (fun _ h9 => h9) rfl dX2_addPassage_41 ?_
    refine lv_aload_n hx hb dX2_addPassage_44 rfl (lv_at hl 0 rfl) ?_
    refine va_get (D := D) (ci := 2) (v := .int q_passages) (C := RX2) (T := TX2) (N := 9) hx hb hts iX2 hown hK hP 0 rfl rfl 3 (by decide) (hts _ kw_107) (fun _ h9 => h9) rfl dX2_addPassage_45 ?_
    refine lv_iload hx hb dX2_addPassage_48 (lv_at hl 4 rfl) ?_
    obtain ⟨hi_4, hv⟩ := hv
    refine va_iast hx hb hK hP hD hS 6 0 rfl rfl hi_4 dX2_addPassage_50 (fun H locs hP hD hS => ?_)
    have hP : va_P D vwCl [(qh, .inr (2, [.ref q0, .ref q1, .int q_safeRooms, .int q_passages, .ref q4, .ref q5, .ref q6, .ref q7, .ref q8])), (q0, .inl (cI, 6, .inl q_people)), (q1, .inl (cI, 6, .inl q_area)), (q4, .inl (cI, 10, .inl (upd q_from q_passages.toNatClampNeg a1))), (q5, .inl (cI, 10, .inl (upd q_to q_passages.toNatClampNeg a2))), (q6, .inl (cI, 10, .inl (upd q_width q_passages.toNatClampNeg a3))), (q7, .inl (cI, 10, .inl (upd q_length q_passages.toNatClampNeg a4))), (q8, .inl (cI, 10, .inl q_shut))] H := hP
    have hD : va_D A [(qh, .inr (2, [.ref q0, .ref q1, .int q_safeRooms, .int q_passages, .ref q4, .ref q5, .ref q6, .ref q7, .ref q8])), (q0, .inl (cI, 6, .inl q_people)), (q1, .inl (cI, 6, .inl q_area)), (q4, .inl (cI, 10, .inl (upd q_from q_passages.toNatClampNeg a1))), (q5, .inl (cI, 10, .inl (upd q_to q_passages.toNatClampNeg a2))), (q6, .inl (cI, 10, .inl (upd q_width q_passages.toNatClampNeg a3))), (q7, .inl (cI, 10, .inl (upd q_length q_passages.toNatClampNeg a4))), (q8, .inl (cI, 10, .inl q_shut))] := hD
    refine lv_aload_n hx hb dX2_addPassage_51 rfl (lv_at hl 0 rfl) ?_
    refine va_get (D := D) (ci := 2) (v := .ref q8) (C := RX2) (T := TX2) (N := 9) hx hb hts iX2 hown hK hP 0 rfl rfl 8 (by decide) (hts _ kw_127) (fun _ h9 => h9) rfl dX2_addPassage_52 ?_
    refine lv_aload_n hx hb dX2_addPassage_55 rfl (lv_at hl 0 rfl) ?_
    refine va_get (D := D) (ci := 2) (v := .int q_passages) (C := RX2) (T := TX2) (N := 9) hx hb hts iX2 hown hK hP 0 rfl rfl 3 (by decide) (hts _ kw_107) (fun _ h9 => h9) rfl dX2_addPassage_56 ?_
    refine lv_sipush (v := 1000) hx hb dX2_addPassage_59 (by decide) ?_
    obtain ⟨hi_5, hv⟩ := hv
    refine va_iast hx hb hK hP hD hS 7 0 rfl rfl hi_5 dX2_addPassage_62 (fun H locs hP hD hS => ?_)
    have hP : va_P D vwCl [(qh, .inr (2, [.ref q0, .ref q1, .int q_safeRooms, .int q_passages, .ref q4, .ref q5, .ref q6, .ref q7, .ref q8])), (q0, .inl (cI, 6, .inl q_people)), (q1, .inl (cI, 6, .inl q_area)), (q4, .inl (cI, 10, .inl (upd q_from q_passages.toNatClampNeg a1))), (q5, .inl (cI, 10, .inl (upd q_to q_passages.toNatClampNeg a2))), (q6, .inl (cI, 10, .inl (upd q_width q_passages.toNatClampNeg a3))), (q7, .inl (cI, 10, .inl (upd q_length q_passages.toNatClampNeg a4))), (q8, .inl (cI, 10, .inl (upd q_shut q_passages.toNatClampNeg 1000)))] H := hP
    have hD : va_D A [(qh, .inr (2, [.ref q0, .ref q1, .int q_safeRooms, .int q_passages, .ref q4, .ref q5, .ref q6, .ref q7, .ref q8])), (q0, .inl (cI, 6, .inl q_people)), (q1, .inl (cI, 6, .inl q_area)), (q4, .inl (cI, 10, .inl (upd q_from q_passages.toNatClampNeg a1))), (q5, .inl (cI, 10, .inl (upd q_to q_passages.toNatClampNeg a2))), (q6, .inl (cI, 10, .inl (upd q_width q_passages.toNatClampNeg a3))), (q7, .inl (cI, 10, .inl (upd q_length q_passages.toNatClampNeg a4))), (q8, .inl (cI, 10, .inl (upd q_shut q_passages.toNatClampNeg 1000)))] := hD
    refine lv_aload_n hx hb dX2_addPassage_63 rfl (lv_at hl 0 rfl) ?_
    refine lv_dup hx hb dX2_addPassage_64 rfl ?_
    refine va_get (D := D) (ci := 2) (v := .int q_passages) (C := RX2) (T := TX2) (N := 9) hx hb hts iX2 hown hK hP 0 rfl rfl 3 (by decide) (hts _ kw_107) (fun _ h9 => h9) rfl dX2_addPassage_65 ?_
    refine lv_iconst (v := 1) hx hb dX2_addPassage_68 (by decide) ?_
    refine lv_iadd hx hb dX2_addPassage_69 ?_
    refine va_put (D := D) (ci := 2) (v := .int (q_passages + 1)) (ty := .int) (C := RX2) (T := TX2) (N := 9) hx hb hts iX2 tyX2 tyX2_ok nmX2 hown hK hP hD hS 0 rfl rfl 3 (by decide) (hts _ kw_107) (fun _ h9 => h9) rfl (by decide +kernel) rfl rfl (Nat.le_of_ble_eq_true rfl) dX2_addPassage_70 (fun H locs hP hD hS => ?_)
    have hP : va_P D vwCl [(qh, .inr (2, [.ref q0, .ref q1, .int q_safeRooms, .int (q_passages + 1), .ref q4, .ref q5, .ref q6, .ref q7, .ref q8])), (q0, .inl (cI, 6, .inl q_people)), (q1, .inl (cI, 6, .inl q_area)), (q4, .inl (cI, 10, .inl (upd q_from q_passages.toNatClampNeg a1))), (q5, .inl (cI, 10, .inl (upd q_to q_passages.toNatClampNeg a2))), (q6, .inl (cI, 10, .inl (upd q_width q_passages.toNatClampNeg a3))), (q7, .inl (cI, 10, .inl (upd q_length q_passages.toNatClampNeg a4))), (q8, .inl (cI, 10, .inl (upd q_shut q_passages.toNatClampNeg 1000)))] H := hP
    have hD : va_D A [(qh, .inr (2, [.ref q0, .ref q1, .int q_safeRooms, .int (q_passages + 1), .ref q4, .ref q5, .ref q6, .ref q7, .ref q8])), (q0, .inl (cI, 6, .inl q_people)), (q1, .inl (cI, 6, .inl q_area)), (q4, .inl (cI, 10, .inl (upd q_from q_passages.toNatClampNeg a1))), (q5, .inl (cI, 10, .inl (upd q_to q_passages.toNatClampNeg a2))), (q6, .inl (cI, 10, .inl (upd q_width q_passages.toNatClampNeg a3))), (q7, .inl (cI, 10, .inl (upd q_length q_passages.toNatClampNeg a4))), (q8, .inl (cI, 10, .inl (upd q_shut q_passages.toNatClampNeg 1000)))] := hD
    exact lw_vret C ((q_passages + 1), (upd q_from q_passages.toNatClampNeg a1), (upd q_to q_passages.toNatClampNeg a2), (upd q_width q_passages.toNatClampNeg a3), (upd q_length q_passages.toNatClampNeg a4), (upd q_shut q_passages.toNatClampNeg 1000)) hv hP hD hS dX2_addPassage_73
  · have hv := hv.2 c9
    exact lw_vret C (q_passages, q_from, q_to, q_width, q_length, q_shut) hv hP hD hS dX2_addPassage_9

def vc_X2_copy (q_people : (Nat → Int32)) (q_area : (Nat → Int32)) (q_safeRooms : Int32) (q_passages : Int32) (q_from : (Nat → Int32)) (q_to : (Nat → Int32)) (q_width : (Nat → Int32)) (q_length : (Nat → Int32)) (q_shut : (Nat → Int32)) (qb_people : (Nat → Int32)) (qb_area : (Nat → Int32)) (qb_safeRooms : Int32) (qb_passages : Int32) (qb_from : (Nat → Int32)) (qb_to : (Nat → Int32)) (qb_width : (Nat → Int32)) (qb_length : (Nat → Int32)) (qb_shut : (Nat → Int32)) (post : ((Nat → Int32) × (Nat → Int32) × Int32 × Int32 × (Nat → Int32) × (Nat → Int32) × (Nat → Int32) × (Nat → Int32) × (Nat → Int32)) → Prop) : Prop :=
  post ((va_cpy qb_people q_people 0 0 6), (va_cpy qb_area q_area 0 0 6), qb_safeRooms, qb_passages, (va_cpy qb_from q_from 0 0 10), (va_cpy qb_to q_to 0 0 10), (va_cpy qb_width q_width 0 0 10), (va_cpy qb_length q_length 0 0 10), (va_cpy qb_shut q_shut 0 0 10))

set_option maxHeartbeats 4000000 in
set_option maxRecDepth 100000 in
theorem m_X2_copy (l : Launch) (D : va_G) (cI cZ : ClassId) (qh q0 q1 q4 q5 q6 q7 q8 qbh qb0 qb1 qb4 qb5 qb6 qb7 qb8 : Nat) (q_people : (Nat → Int32)) (q_area : (Nat → Int32)) (q_safeRooms : Int32) (q_passages : Int32) (q_from : (Nat → Int32)) (q_to : (Nat → Int32)) (q_width : (Nat → Int32)) (q_length : (Nat → Int32)) (q_shut : (Nat → Int32)) (qb_people : (Nat → Int32)) (qb_area : (Nat → Int32)) (qb_safeRooms : Int32) (qb_passages : Int32) (qb_from : (Nat → Int32)) (qb_to : (Nat → Int32)) (qb_width : (Nat → Int32)) (qb_length : (Nat → Int32)) (qb_shut : (Nat → Int32)) (sz : Nat) {post : ((Nat → Int32) × (Nat → Int32) × Int32 × Int32 × (Nat → Int32) × (Nat → Int32) × (Nat → Int32) × (Nat → Int32) × (Nat → Int32)) → Prop} (hv : vc_X2_copy q_people q_area q_safeRooms q_passages q_from q_to q_width q_length q_shut qb_people qb_area qb_safeRooms qb_passages qb_from qb_to qb_width qb_length qb_shut post) :
    Met l yX2_copy (Cond.code yX2_copy cX2_copy 2 none :: lw_good) ({ frames := 1, cells := 0, slots := 0, locals := 18 } : Room) (va_Pc [.ref qh, .ref qbh] (lw_B D cI cZ [(qh, .inr (2, [.ref q0, .ref q1, .int q_safeRooms, .int q_passages, .ref q4, .ref q5, .ref q6, .ref q7, .ref q8])), (q0, .inl (cI, 6, .inl q_people)), (q1, .inl (cI, 6, .inl q_area)), (q4, .inl (cI, 10, .inl q_from)), (q5, .inl (cI, 10, .inl q_to)), (q6, .inl (cI, 10, .inl q_width)), (q7, .inl (cI, 10, .inl q_length)), (q8, .inl (cI, 10, .inl q_shut)), (qbh, .inr (2, [.ref qb0, .ref qb1, .int qb_safeRooms, .int qb_passages, .ref qb4, .ref qb5, .ref qb6, .ref qb7, .ref qb8])), (qb0, .inl (cI, 6, .inl qb_people)), (qb1, .inl (cI, 6, .inl qb_area)), (qb4, .inl (cI, 10, .inl qb_from)), (qb5, .inl (cI, 10, .inl qb_to)), (qb6, .inl (cI, 10, .inl qb_width)), (qb7, .inl (cI, 10, .inl qb_length)), (qb8, .inl (cI, 10, .inl qb_shut))] sz)) (lw_Qv D cI cZ (va_A [(qh, .inr (2, [.ref q0, .ref q1, .int q_safeRooms, .int q_passages, .ref q4, .ref q5, .ref q6, .ref q7, .ref q8])), (q0, .inl (cI, 6, .inl q_people)), (q1, .inl (cI, 6, .inl q_area)), (q4, .inl (cI, 10, .inl q_from)), (q5, .inl (cI, 10, .inl q_to)), (q6, .inl (cI, 10, .inl q_width)), (q7, .inl (cI, 10, .inl q_length)), (q8, .inl (cI, 10, .inl q_shut)), (qbh, .inr (2, [.ref qb0, .ref qb1, .int qb_safeRooms, .int qb_passages, .ref qb4, .ref qb5, .ref qb6, .ref qb7, .ref qb8])), (qb0, .inl (cI, 6, .inl qb_people)), (qb1, .inl (cI, 6, .inl qb_area)), (qb4, .inl (cI, 10, .inl qb_from)), (qb5, .inl (cI, 10, .inl qb_to)), (qb6, .inl (cI, 10, .inl qb_width)), (qb7, .inl (cI, 10, .inl qb_length)), (qb8, .inl (cI, 10, .inl qb_shut))] sz) (fun u : (Nat → Int32) × (Nat → Int32) × Int32 × Int32 × (Nat → Int32) × (Nat → Int32) × (Nat → Int32) × (Nat → Int32) × (Nat → Int32) => [(qh, .inr (2, [.ref q0, .ref q1, .int u.2.2.1, .int u.2.2.2.1, .ref q4, .ref q5, .ref q6, .ref q7, .ref q8])), (q0, .inl (cI, 6, .inl u.1)), (q1, .inl (cI, 6, .inl u.2.1)), (q4, .inl (cI, 10, .inl u.2.2.2.2.1)), (q5, .inl (cI, 10, .inl u.2.2.2.2.2.1)), (q6, .inl (cI, 10, .inl u.2.2.2.2.2.2.1)), (q7, .inl (cI, 10, .inl u.2.2.2.2.2.2.2.1)), (q8, .inl (cI, 10, .inl u.2.2.2.2.2.2.2.2)), (qbh, .inr (2, [.ref qb0, .ref qb1, .int qb_safeRooms, .int qb_passages, .ref qb4, .ref qb5, .ref qb6, .ref qb7, .ref qb8])), (qb0, .inl (cI, 6, .inl qb_people)), (qb1, .inl (cI, 6, .inl qb_area)), (qb4, .inl (cI, 10, .inl qb_from)), (qb5, .inl (cI, 10, .inl qb_to)), (qb6, .inl (cI, 10, .inl qb_width)), (qb7, .inl (cI, 10, .inl qb_length)), (qb8, .inl (cI, 10, .inl qb_shut))]) post) 0 0 (va_A [(qh, .inr (2, [.ref q0, .ref q1, .int q_safeRooms, .int q_passages, .ref q4, .ref q5, .ref q6, .ref q7, .ref q8])), (q0, .inl (cI, 6, .inl q_people)), (q1, .inl (cI, 6, .inl q_area)), (q4, .inl (cI, 10, .inl q_from)), (q5, .inl (cI, 10, .inl q_to)), (q6, .inl (cI, 10, .inl q_width)), (q7, .inl (cI, 10, .inl q_length)), (q8, .inl (cI, 10, .inl q_shut)), (qbh, .inr (2, [.ref qb0, .ref qb1, .int qb_safeRooms, .int qb_passages, .ref qb4, .ref qb5, .ref qb6, .ref qb7, .ref qb8])), (qb0, .inl (cI, 6, .inl qb_people)), (qb1, .inl (cI, 6, .inl qb_area)), (qb4, .inl (cI, 10, .inl qb_from)), (qb5, .inl (cI, 10, .inl qb_to)), (qb6, .inl (cI, 10, .inl qb_width)), (qb7, .inl (cI, 10, .inl qb_length)), (qb8, .inl (cI, 10, .inl qb_shut))] sz) := by
  refine lw_met (Q := fun A => lw_Qv D cI cZ A (fun u : (Nat → Int32) × (Nat → Int32) × Int32 × Int32 × (Nat → Int32) × (Nat → Int32) × (Nat → Int32) × (Nat → Int32) × (Nat → Int32) => [(qh, .inr (2, [.ref q0, .ref q1, .int u.2.2.1, .int u.2.2.2.1, .ref q4, .ref q5, .ref q6, .ref q7, .ref q8])), (q0, .inl (cI, 6, .inl u.1)), (q1, .inl (cI, 6, .inl u.2.1)), (q4, .inl (cI, 10, .inl u.2.2.2.2.1)), (q5, .inl (cI, 10, .inl u.2.2.2.2.2.1)), (q6, .inl (cI, 10, .inl u.2.2.2.2.2.2.1)), (q7, .inl (cI, 10, .inl u.2.2.2.2.2.2.2.1)), (q8, .inl (cI, 10, .inl u.2.2.2.2.2.2.2.2)), (qbh, .inr (2, [.ref qb0, .ref qb1, .int qb_safeRooms, .int qb_passages, .ref qb4, .ref qb5, .ref qb6, .ref qb7, .ref qb8])), (qb0, .inl (cI, 6, .inl qb_people)), (qb1, .inl (cI, 6, .inl qb_area)), (qb4, .inl (cI, 10, .inl qb_from)), (qb5, .inl (cI, 10, .inl qb_to)), (qb6, .inl (cI, 10, .inl qb_width)), (qb7, .inl (cI, 10, .inl qb_length)), (qb8, .inl (cI, 10, .inl qb_shut))]) post) (by decide) (Nat.le_of_ble_eq_true rfl) ?_
  intro p e s m below meth c A C hnm hP hD hS ls hl
  have C : lw_Cx D cI cZ p s m _ meth c cX2_copy 2 none RX2 A := C
  obtain ⟨hx, hb, hr, hml, hown, hts, hlocks, hN, hK, hA⟩ := id C
  have hl : lv_has ls 2 [(0, .ref qh), (1, .ref qbh)] := hl
  obtain ⟨H, hH⟩ : ∃ H, H = s.heap := ⟨_, rfl⟩
  rw [← hH] at hP
  have hS : va_S A s.heap H [] := by rw [hH]; exact hS
  suffices hgoal : W p l e ({ frames := 1, cells := 0, slots := 0, locals := 18 } : Room) s m #[.ref qh, .ref qbh] below meth c H [] 0 0 (MQ below (lw_Qv D cI cZ A (fun u : (Nat → Int32) × (Nat → Int32) × Int32 × Int32 × (Nat → Int32) × (Nat → Int32) × (Nat → Int32) × (Nat → Int32) × (Nat → Int32) => [(qh, .inr (2, [.ref q0, .ref q1, .int u.2.2.1, .int u.2.2.2.1, .ref q4, .ref q5, .ref q6, .ref q7, .ref q8])), (q0, .inl (cI, 6, .inl u.1)), (q1, .inl (cI, 6, .inl u.2.1)), (q4, .inl (cI, 10, .inl u.2.2.2.2.1)), (q5, .inl (cI, 10, .inl u.2.2.2.2.2.1)), (q6, .inl (cI, 10, .inl u.2.2.2.2.2.2.1)), (q7, .inl (cI, 10, .inl u.2.2.2.2.2.2.2.1)), (q8, .inl (cI, 10, .inl u.2.2.2.2.2.2.2.2)), (qbh, .inr (2, [.ref qb0, .ref qb1, .int qb_safeRooms, .int qb_passages, .ref qb4, .ref qb5, .ref qb6, .ref qb7, .ref qb8])), (qb0, .inl (cI, 6, .inl qb_people)), (qb1, .inl (cI, 6, .inl qb_area)), (qb4, .inl (cI, 10, .inl qb_from)), (qb5, .inl (cI, 10, .inl qb_to)), (qb6, .inl (cI, 10, .inl qb_width)), (qb7, .inl (cI, 10, .inl qb_length)), (qb8, .inl (cI, 10, .inl qb_shut))]) post) #[.ref qh, .ref qbh] s 0 0 A) (F0 m 0 ls []) by rw [hH] at hgoal; exact hgoal
  obtain ⟨locs, hlo⟩ : ∃ locs : List Loc, locs = [] := ⟨_, rfl⟩
  rw [← hlo] at hS ⊢
  rw [vc_X2_copy] at hv
  refine lv_aload_n hx hb dX2_copy_0 rfl (lv_at hl 1 rfl) ?_
  refine va_get (D := D) (ci := 2) (v := .ref qb0) (C := RX2) (T := TX2) (N := 9) hx hb hts iX2 hown hK hP 8 rfl rfl 0 (by decide) (hts _ kw_97) (fun _ h9 => h9) rfl dX2_copy_1 ?_
  refine lv_iconst (v := 0) hx hb dX2_copy_4 (by decide) ?_
  refine lv_aload_n hx hb dX2_copy_5 rfl (lv_at hl 0 rfl) ?_
  refine va_get (D := D) (ci := 2) (v := .ref q0) (C := RX2) (T := TX2) (N := 9) hx hb hts iX2 hown hK hP 0 rfl rfl 0 (by decide) (hts _ kw_97) (fun _ h9 => h9) rfl dX2_copy_6 ?_
  refine lv_iconst (v := 0) hx hb dX2_copy_9 (by decide) ?_
  refine lv_bipush (v := 6) hx hb dX2_copy_10 (by decide) ?_
  refine va_copyi (sp := 0) (dp := 0) (n := 6) hx hb (hml.trans hl.1.symm) hown (hts _ kw_534) (hts _ kw_386) (hts _ kw_385) (hts _ kw_78) hK hP hD hS 9 1 0 0 rfl rfl rfl rfl rfl (by decide) (by decide) (by decide) (by decide) (by decide) (fun _ _ => rfl) (Nat.le_of_ble_eq_true rfl) (Nat.le_of_ble_eq_true rfl) dX2_copy_12 (fun H locs hP hD hS => ?_)
  have hP : va_P D vwCl [(qh, .inr (2, [.ref q0, .ref q1, .int q_safeRooms, .int q_passages, .ref q4, .ref q5, .ref q6, .ref q7, .ref q8])), (q0, .inl (cI, 6, .inl (va_cpy qb_people q_people 0 0 6))), (q1, .inl (cI, 6, .inl q_area)), (q4, .inl (cI, 10, .inl q_from)), (q5, .inl (cI, 10, .inl q_to)), (q6, .inl (cI, 10, .inl q_width)), (q7, .inl (cI, 10, .inl q_length)), (q8, .inl (cI, 10, .inl q_shut)), (qbh, .inr (2, [.ref qb0, .ref qb1, .int qb_safeRooms, .int qb_passages, .ref qb4, .ref qb5, .ref qb6, .ref qb7, .ref qb8])), (qb0, .inl (cI, 6, .inl qb_people)), (qb1, .inl (cI, 6, .inl qb_area)), (qb4, .inl (cI, 10, .inl qb_from)), (qb5, .inl (cI, 10, .inl qb_to)), (qb6, .inl (cI, 10, .inl qb_width)), (qb7, .inl (cI, 10, .inl qb_length)), (qb8, .inl (cI, 10, .inl qb_shut))] H := hP
  have hD : va_D A [(qh, .inr (2, [.ref q0, .ref q1, .int q_safeRooms, .int q_passages, .ref q4, .ref q5, .ref q6, .ref q7, .ref q8])), (q0, .inl (cI, 6, .inl (va_cpy qb_people q_people 0 0 6))), (q1, .inl (cI, 6, .inl q_area)), (q4, .inl (cI, 10, .inl q_from)), (q5, .inl (cI, 10, .inl q_to)), (q6, .inl (cI, 10, .inl q_width)), (q7, .inl (cI, 10, .inl q_length)), (q8, .inl (cI, 10, .inl q_shut)), (qbh, .inr (2, [.ref qb0, .ref qb1, .int qb_safeRooms, .int qb_passages, .ref qb4, .ref qb5, .ref qb6, .ref qb7, .ref qb8])), (qb0, .inl (cI, 6, .inl qb_people)), (qb1, .inl (cI, 6, .inl qb_area)), (qb4, .inl (cI, 10, .inl qb_from)), (qb5, .inl (cI, 10, .inl qb_to)), (qb6, .inl (cI, 10, .inl qb_width)), (qb7, .inl (cI, 10, .inl qb_length)), (qb8, .inl (cI, 10, .inl qb_shut))] := hD
  refine lv_aload_n hx hb dX2_copy_15 rfl (lv_at hl 1 rfl) ?_
  refine va_get (D := D) (ci := 2) (v := .ref qb1) (C := RX2) (T := TX2) (N := 9) hx hb hts iX2 hown hK hP 8 rfl rfl 1 (by decide) (hts _ kw_101) (fun _ h9 => h9) rfl dX2_copy_16 ?_
  refine lv_iconst (v := 0) hx hb dX2_copy_19 (by decide) ?_
  refine lv_aload_n hx hb dX2_copy_20 rfl (lv_at hl 0 rfl) ?_
  refine va_get (D := D) (ci := 2) (v := .ref q1) (C := RX2) (T := TX2) (N := 9) hx hb hts iX2 hown hK hP 0 rfl rfl 1 (by decide) (hts _ kw_101) (fun _ h9 => h9) rfl dX2_copy_21 ?_
  refine lv_iconst (v := 0) hx hb dX2_copy_24 (by decide) ?_
  refine lv_bipush (v := 6) hx hb dX2_copy_25 (by decide) ?_
  refine va_copyi (sp := 0) (dp := 0) (n := 6) hx hb (hml.trans hl.1.symm) hown (hts _ kw_534) (hts _ kw_386) (hts _ kw_385) (hts _ kw_78) hK hP hD hS 10 2 0 0 rfl rfl rfl rfl rfl (by decide) (by decide) (by decide) (by decide) (by decide) (fun _ _ => rfl) (Nat.le_of_ble_eq_true rfl) (Nat.le_of_ble_eq_true rfl) dX2_copy_27 (fun H locs hP hD hS => ?_)
  have hP : va_P D vwCl [(qh, .inr (2, [.ref q0, .ref q1, .int q_safeRooms, .int q_passages, .ref q4, .ref q5, .ref q6, .ref q7, .ref q8])), (q0, .inl (cI, 6, .inl (va_cpy qb_people q_people 0 0 6))), (q1, .inl (cI, 6, .inl (va_cpy qb_area q_area 0 0 6))), (q4, .inl (cI, 10, .inl q_from)), (q5, .inl (cI, 10, .inl q_to)), (q6, .inl (cI, 10, .inl q_width)), (q7, .inl (cI, 10, .inl q_length)), (q8, .inl (cI, 10, .inl q_shut)), (qbh, .inr (2, [.ref qb0, .ref qb1, .int qb_safeRooms, .int qb_passages, .ref qb4, .ref qb5, .ref qb6, .ref qb7, .ref qb8])), (qb0, .inl (cI, 6, .inl qb_people)), (qb1, .inl (cI, 6, .inl qb_area)), (qb4, .inl (cI, 10, .inl qb_from)), (qb5, .inl (cI, 10, .inl qb_to)), (qb6, .inl (cI, 10, .inl qb_width)), (qb7, .inl (cI, 10, .inl qb_length)), (qb8, .inl (cI, 10, .inl qb_shut))] H := hP
  have hD : va_D A [(qh, .inr (2, [.ref q0, .ref q1, .int q_safeRooms, .int q_passages, .ref q4, .ref q5, .ref q6, .ref q7, .ref q8])), (q0, .inl (cI, 6, .inl (va_cpy qb_people q_people 0 0 6))), (q1, .inl (cI, 6, .inl (va_cpy qb_area q_area 0 0 6))), (q4, .inl (cI, 10, .inl q_from)), (q5, .inl (cI, 10, .inl q_to)), (q6, .inl (cI, 10, .inl q_width)), (q7, .inl (cI, 10, .inl q_length)), (q8, .inl (cI, 10, .inl q_shut)), (qbh, .inr (2, [.ref qb0, .ref qb1, .int qb_safeRooms, .int qb_passages, .ref qb4, .ref qb5, .ref qb6, .ref qb7, .ref qb8])), (qb0, .inl (cI, 6, .inl qb_people)), (qb1, .inl (cI, 6, .inl qb_area)), (qb4, .inl (cI, 10, .inl qb_from)), (qb5, .inl (cI, 10, .inl qb_to)), (qb6, .inl (cI, 10, .inl qb_width)), (qb7, .inl (cI, 10, .inl qb_length)), (qb8, .inl (cI, 10, .inl qb_shut))] := hD
  refine lv_aload_n hx hb dX2_copy_30 rfl (lv_at hl 0 rfl) ?_
  refine lv_aload_n hx hb dX2_copy_31 rfl (lv_at hl 1 rfl) ?_
  refine va_get (D := D) (ci := 2) (v := .int qb_safeRooms) (C := RX2) (T := TX2) (N := 9) hx hb hts iX2 hown hK hP 8 rfl rfl 2 (by decide) (hts _ kw_103) (fun _ h9 => h9) rfl dX2_copy_32 ?_
  refine va_put (D := D) (ci := 2) (v := .int qb_safeRooms) (ty := .int) (C := RX2) (T := TX2) (N := 9) hx hb hts iX2 tyX2 tyX2_ok nmX2 hown hK hP hD hS 0 rfl rfl 2 (by decide) (hts _ kw_103) (fun _ h9 => h9) rfl (by decide +kernel) rfl rfl (Nat.le_of_ble_eq_true rfl) dX2_copy_35 (fun H locs hP hD hS => ?_)
  have hP : va_P D vwCl [(qh, .inr (2, [.ref q0, .ref q1, .int qb_safeRooms, .int q_passages, .ref q4, .ref q5, .ref q6, .ref q7, .ref q8])), (q0, .inl (cI, 6, .inl (va_cpy qb_people q_people 0 0 6))), (q1, .inl (cI, 6, .inl (va_cpy qb_area q_area 0 0 6))), (q4, .inl (cI, 10, .inl q_from)), (q5, .inl (cI, 10, .inl q_to)), (q6, .inl (cI, 10, .inl q_width)), (q7, .inl (cI, 10, .inl q_length)), (q8, .inl (cI, 10, .inl q_shut)), (qbh, .inr (2, [.ref qb0, .ref qb1, .int qb_safeRooms, .int qb_passages, .ref qb4, .ref qb5, .ref qb6, .ref qb7, .ref qb8])), (qb0, .inl (cI, 6, .inl qb_people)), (qb1, .inl (cI, 6, .inl qb_area)), (qb4, .inl (cI, 10, .inl qb_from)), (qb5, .inl (cI, 10, .inl qb_to)), (qb6, .inl (cI, 10, .inl qb_width)), (qb7, .inl (cI, 10, .inl qb_length)), (qb8, .inl (cI, 10, .inl qb_shut))] H := hP
  have hD : va_D A [(qh, .inr (2, [.ref q0, .ref q1, .int qb_safeRooms, .int q_passages, .ref q4, .ref q5, .ref q6, .ref q7, .ref q8])), (q0, .inl (cI, 6, .inl (va_cpy qb_people q_people 0 0 6))), (q1, .inl (cI, 6, .inl (va_cpy qb_area q_area 0 0 6))), (q4, .inl (cI, 10, .inl q_from)), (q5, .inl (cI, 10, .inl q_to)), (q6, .inl (cI, 10, .inl q_width)), (q7, .inl (cI, 10, .inl q_length)), (q8, .inl (cI, 10, .inl q_shut)), (qbh, .inr (2, [.ref qb0, .ref qb1, .int qb_safeRooms, .int qb_passages, .ref qb4, .ref qb5, .ref qb6, .ref qb7, .ref qb8])), (qb0, .inl (cI, 6, .inl qb_people)), (qb1, .inl (cI, 6, .inl qb_area)), (qb4, .inl (cI, 10, .inl qb_from)), (qb5, .inl (cI, 10, .inl qb_to)), (qb6, .inl (cI, 10, .inl qb_width)), (qb7, .inl (cI, 10, .inl qb_length)), (qb8, .inl (cI, 10, .inl qb_shut))] := hD
  refine lv_aload_n hx hb dX2_copy_38 rfl (lv_at hl 0 rfl) ?_
  refine lv_aload_n hx hb dX2_copy_39 rfl (lv_at hl 1 rfl) ?_
  refine va_get (D := D) (ci := 2) (v := .int qb_passages) (C := RX2) (T := TX2) (N := 9) hx hb hts iX2 hown hK hP 8 rfl rfl 3 (by decide) (hts _ kw_107) (fun _ h9 => h9) rfl dX2_copy_40 ?_
  refine va_put (D := D) (ci := 2) (v := .int qb_passages) (ty := .int) (C := RX2) (T := TX2) (N := 9) hx hb hts iX2 tyX2 tyX2_ok nmX2 hown hK hP hD hS 0 rfl rfl 3 (by decide) (hts _ kw_107) (fun _ h9 => h9) rfl (by decide +kernel) rfl rfl (Nat.le_of_ble_eq_true rfl) dX2_copy_43 (fun H locs hP hD hS => ?_)
  have hP : va_P D vwCl [(qh, .inr (2, [.ref q0, .ref q1, .int qb_safeRooms, .int qb_passages, .ref q4, .ref q5, .ref q6, .ref q7, .ref q8])), (q0, .inl (cI, 6, .inl (va_cpy qb_people q_people 0 0 6))), (q1, .inl (cI, 6, .inl (va_cpy qb_area q_area 0 0 6))), (q4, .inl (cI, 10, .inl q_from)), (q5, .inl (cI, 10, .inl q_to)), (q6, .inl (cI, 10, .inl q_width)), (q7, .inl (cI, 10, .inl q_length)), (q8, .inl (cI, 10, .inl q_shut)), (qbh, .inr (2, [.ref qb0, .ref qb1, .int qb_safeRooms, .int qb_passages, .ref qb4, .ref qb5, .ref qb6, .ref qb7, .ref qb8])), (qb0, .inl (cI, 6, .inl qb_people)), (qb1, .inl (cI, 6, .inl qb_area)), (qb4, .inl (cI, 10, .inl qb_from)), (qb5, .inl (cI, 10, .inl qb_to)), (qb6, .inl (cI, 10, .inl qb_width)), (qb7, .inl (cI, 10, .inl qb_length)), (qb8, .inl (cI, 10, .inl qb_shut))] H := hP
  have hD : va_D A [(qh, .inr (2, [.ref q0, .ref q1, .int qb_safeRooms, .int qb_passages, .ref q4, .ref q5, .ref q6, .ref q7, .ref q8])), (q0, .inl (cI, 6, .inl (va_cpy qb_people q_people 0 0 6))), (q1, .inl (cI, 6, .inl (va_cpy qb_area q_area 0 0 6))), (q4, .inl (cI, 10, .inl q_from)), (q5, .inl (cI, 10, .inl q_to)), (q6, .inl (cI, 10, .inl q_width)), (q7, .inl (cI, 10, .inl q_length)), (q8, .inl (cI, 10, .inl q_shut)), (qbh, .inr (2, [.ref qb0, .ref qb1, .int qb_safeRooms, .int qb_passages, .ref qb4, .ref qb5, .ref qb6, .ref qb7, .ref qb8])), (qb0, .inl (cI, 6, .inl qb_people)), (qb1, .inl (cI, 6, .inl qb_area)), (qb4, .inl (cI, 10, .inl qb_from)), (qb5, .inl (cI, 10, .inl qb_to)), (qb6, .inl (cI, 10, .inl qb_width)), (qb7, .inl (cI, 10, .inl qb_length)), (qb8, .inl (cI, 10, .inl qb_shut))] := hD
  refine lv_aload_n hx hb dX2_copy_46 rfl (lv_at hl 1 rfl) ?_
  refine va_get (D := D) (ci := 2) (v := .ref qb4) (C := RX2) (T := TX2) (N := 9) hx hb hts iX2 hown hK hP 8 rfl rfl 4 (by decide) (hts _ kw_111) (fun _ h9 => h9) rfl dX2_copy_47 ?_
  refine lv_iconst (v := 0) hx hb dX2_copy_50 (by decide) ?_
  refine lv_aload_n hx hb dX2_copy_51 rfl (lv_at hl 0 rfl) ?_
  refine va_get (D := D) (ci := 2) (v := .ref q4) (C := RX2) (T := TX2) (N := 9) hx hb hts iX2 hown hK hP 0 rfl rfl 4 (by decide) (hts _ kw_111) (fun _ h9 => h9) rfl dX2_copy_52 ?_
  refine lv_iconst (v := 0) hx hb dX2_copy_55 (by decide) ?_
  refine lv_bipush (v := 10) hx hb dX2_copy_56 (by decide) ?_
  refine va_copyi (sp := 0) (dp := 0) (n := 10) hx hb (hml.trans hl.1.symm) hown (hts _ kw_534) (hts _ kw_386) (hts _ kw_385) (hts _ kw_78) hK hP hD hS 11 3 0 0 rfl rfl rfl rfl rfl (by decide) (by decide) (by decide) (by decide) (by decide) (fun _ _ => rfl) (Nat.le_of_ble_eq_true rfl) (Nat.le_of_ble_eq_true rfl) dX2_copy_58 (fun H locs hP hD hS => ?_)
  have hP : va_P D vwCl [(qh, .inr (2, [.ref q0, .ref q1, .int qb_safeRooms, .int qb_passages, .ref q4, .ref q5, .ref q6, .ref q7, .ref q8])), (q0, .inl (cI, 6, .inl (va_cpy qb_people q_people 0 0 6))), (q1, .inl (cI, 6, .inl (va_cpy qb_area q_area 0 0 6))), (q4, .inl (cI, 10, .inl (va_cpy qb_from q_from 0 0 10))), (q5, .inl (cI, 10, .inl q_to)), (q6, .inl (cI, 10, .inl q_width)), (q7, .inl (cI, 10, .inl q_length)), (q8, .inl (cI, 10, .inl q_shut)), (qbh, .inr (2, [.ref qb0, .ref qb1, .int qb_safeRooms, .int qb_passages, .ref qb4, .ref qb5, .ref qb6, .ref qb7, .ref qb8])), (qb0, .inl (cI, 6, .inl qb_people)), (qb1, .inl (cI, 6, .inl qb_area)), (qb4, .inl (cI, 10, .inl qb_from)), (qb5, .inl (cI, 10, .inl qb_to)), (qb6, .inl (cI, 10, .inl qb_width)), (qb7, .inl (cI, 10, .inl qb_length)), (qb8, .inl (cI, 10, .inl qb_shut))] H := hP
  have hD : va_D A [(qh, .inr (2, [.ref q0, .ref q1, .int qb_safeRooms, .int qb_passages, .ref q4, .ref q5, .ref q6, .ref q7, .ref q8])), (q0, .inl (cI, 6, .inl (va_cpy qb_people q_people 0 0 6))), (q1, .inl (cI, 6, .inl (va_cpy qb_area q_area 0 0 6))), (q4, .inl (cI, 10, .inl (va_cpy qb_from q_from 0 0 10))), (q5, .inl (cI, 10, .inl q_to)), (q6, .inl (cI, 10, .inl q_width)), (q7, .inl (cI, 10, .inl q_length)), (q8, .inl (cI, 10, .inl q_shut)), (qbh, .inr (2, [.ref qb0, .ref qb1, .int qb_safeRooms, .int qb_passages, .ref qb4, .ref qb5, .ref qb6, .ref qb7, .ref qb8])), (qb0, .inl (cI, 6, .inl qb_people)), (qb1, .inl (cI, 6, .inl qb_area)), (qb4, .inl (cI, 10, .inl qb_from)), (qb5, .inl (cI, 10, .inl qb_to)), (qb6, .inl (cI, 10, .inl qb_width)), (qb7, .inl (cI, 10, .inl qb_length)), (qb8, .inl (cI, 10, .inl qb_shut))] := hD
  refine lv_aload_n hx hb dX2_copy_61 rfl (lv_at hl 1 rfl) ?_
  refine va_get (D := D) (ci := 2) (v := .ref qb5) (C := RX2) (T := TX2) (N := 9) hx hb hts iX2 hown hK hP 8 rfl rfl 5 (by decide) (hts _ kw_115) (fun _ h9 => h9) rfl dX2_copy_62 ?_
  refine lv_iconst (v := 0) hx hb dX2_copy_65 (by decide) ?_
  refine lv_aload_n hx hb dX2_copy_66 rfl (lv_at hl 0 rfl) ?_
  refine va_get (D := D) (ci := 2) (v := .ref q5) (C := RX2) (T := TX2) (N := 9) hx hb hts iX2 hown hK hP 0 rfl rfl 5 (by decide) (hts _ kw_115) (fun _ h9 => h9) rfl dX2_copy_67 ?_
  refine lv_iconst (v := 0) hx hb dX2_copy_70 (by decide) ?_
  refine lv_bipush (v := 10) hx hb dX2_copy_71 (by decide) ?_
  refine va_copyi (sp := 0) (dp := 0) (n := 10) hx hb (hml.trans hl.1.symm) hown (hts _ kw_534) (hts _ kw_386) (hts _ kw_385) (hts _ kw_78) hK hP hD hS 12 4 0 0 rfl rfl rfl rfl rfl (by decide) (by decide) (by decide) (by decide) (by decide) (fun _ _ => rfl) (Nat.le_of_ble_eq_true rfl) (Nat.le_of_ble_eq_true rfl) dX2_copy_73 (fun H locs hP hD hS => ?_)
  have hP : va_P D vwCl [(qh, .inr (2, [.ref q0, .ref q1, .int qb_safeRooms, .int qb_passages, .ref q4, .ref q5, .ref q6, .ref q7, .ref q8])), (q0, .inl (cI, 6, .inl (va_cpy qb_people q_people 0 0 6))), (q1, .inl (cI, 6, .inl (va_cpy qb_area q_area 0 0 6))), (q4, .inl (cI, 10, .inl (va_cpy qb_from q_from 0 0 10))), (q5, .inl (cI, 10, .inl (va_cpy qb_to q_to 0 0 10))), (q6, .inl (cI, 10, .inl q_width)), (q7, .inl (cI, 10, .inl q_length)), (q8, .inl (cI, 10, .inl q_shut)), (qbh, .inr (2, [.ref qb0, .ref qb1, .int qb_safeRooms, .int qb_passages, .ref qb4, .ref qb5, .ref qb6, .ref qb7, .ref qb8])), (qb0, .inl (cI, 6, .inl qb_people)), (qb1, .inl (cI, 6, .inl qb_area)), (qb4, .inl (cI, 10, .inl qb_from)), (qb5, .inl (cI, 10, .inl qb_to)), (qb6, .inl (cI, 10, .inl qb_width)), (qb7, .inl (cI, 10, .inl qb_length)), (qb8, .inl (cI, 10, .inl qb_shut))] H := hP
  have hD : va_D A [(qh, .inr (2, [.ref q0, .ref q1, .int qb_safeRooms, .int qb_passages, .ref q4, .ref q5, .ref q6, .ref q7, .ref q8])), (q0, .inl (cI, 6, .inl (va_cpy qb_people q_people 0 0 6))), (q1, .inl (cI, 6, .inl (va_cpy qb_area q_area 0 0 6))), (q4, .inl (cI, 10, .inl (va_cpy qb_from q_from 0 0 10))), (q5, .inl (cI, 10, .inl (va_cpy qb_to q_to 0 0 10))), (q6, .inl (cI, 10, .inl q_width)), (q7, .inl (cI, 10, .inl q_length)), (q8, .inl (cI, 10, .inl q_shut)), (qbh, .inr (2, [.ref qb0, .ref qb1, .int qb_safeRooms, .int qb_passages, .ref qb4, .ref qb5, .ref qb6, .ref qb7, .ref qb8])), (qb0, .inl (cI, 6, .inl qb_people)), (qb1, .inl (cI, 6, .inl qb_area)), (qb4, .inl (cI, 10, .inl qb_from)), (qb5, .inl (cI, 10, .inl qb_to)), (qb6, .inl (cI, 10, .inl qb_width)), (qb7, .inl (cI, 10, .inl qb_length)), (qb8, .inl (cI, 10, .inl qb_shut))] := hD
  refine lv_aload_n hx hb dX2_copy_76 rfl (lv_at hl 1 rfl) ?_
  refine va_get (D := D) (ci := 2) (v := .ref qb6) (C := RX2) (T := TX2) (N := 9) hx hb hts iX2 hown hK hP 8 rfl rfl 6 (by decide) (hts _ kw_119) (fun _ h9 => h9) rfl dX2_copy_77 ?_
  refine lv_iconst (v := 0) hx hb dX2_copy_80 (by decide) ?_
  refine lv_aload_n hx hb dX2_copy_81 rfl (lv_at hl 0 rfl) ?_
  refine va_get (D := D) (ci := 2) (v := .ref q6) (C := RX2) (T := TX2) (N := 9) hx hb hts iX2 hown hK hP 0 rfl rfl 6 (by decide) (hts _ kw_119) (fun _ h9 => h9) rfl dX2_copy_82 ?_
  refine lv_iconst (v := 0) hx hb dX2_copy_85 (by decide) ?_
  refine lv_bipush (v := 10) hx hb dX2_copy_86 (by decide) ?_
  refine va_copyi (sp := 0) (dp := 0) (n := 10) hx hb (hml.trans hl.1.symm) hown (hts _ kw_534) (hts _ kw_386) (hts _ kw_385) (hts _ kw_78) hK hP hD hS 13 5 0 0 rfl rfl rfl rfl rfl (by decide) (by decide) (by decide) (by decide) (by decide) (fun _ _ => rfl) (Nat.le_of_ble_eq_true rfl) (Nat.le_of_ble_eq_true rfl) dX2_copy_88 (fun H locs hP hD hS => ?_)
  have hP : va_P D vwCl [(qh, .inr (2, [.ref q0, .ref q1, .int qb_safeRooms, .int qb_passages, .ref q4, .ref q5, .ref q6, .ref q7, .ref q8])), (q0, .inl (cI, 6, .inl (va_cpy qb_people q_people 0 0 6))), (q1, .inl (cI, 6, .inl (va_cpy qb_area q_area 0 0 6))), (q4, .inl (cI, 10, .inl (va_cpy qb_from q_from 0 0 10))), (q5, .inl (cI, 10, .inl (va_cpy qb_to q_to 0 0 10))), (q6, .inl (cI, 10, .inl (va_cpy qb_width q_width 0 0 10))), (q7, .inl (cI, 10, .inl q_length)), (q8, .inl (cI, 10, .inl q_shut)), (qbh, .inr (2, [.ref qb0, .ref qb1, .int qb_safeRooms, .int qb_passages, .ref qb4, .ref qb5, .ref qb6, .ref qb7, .ref qb8])), (qb0, .inl (cI, 6, .inl qb_people)), (qb1, .inl (cI, 6, .inl qb_area)), (qb4, .inl (cI, 10, .inl qb_from)), (qb5, .inl (cI, 10, .inl qb_to)), (qb6, .inl (cI, 10, .inl qb_width)), (qb7, .inl (cI, 10, .inl qb_length)), (qb8, .inl (cI, 10, .inl qb_shut))] H := hP
  have hD : va_D A [(qh, .inr (2, [.ref q0, .ref q1, .int qb_safeRooms, .int qb_passages, .ref q4, .ref q5, .ref q6, .ref q7, .ref q8])), (q0, .inl (cI, 6, .inl (va_cpy qb_people q_people 0 0 6))), (q1, .inl (cI, 6, .inl (va_cpy qb_area q_area 0 0 6))), (q4, .inl (cI, 10, .inl (va_cpy qb_from q_from 0 0 10))), (q5, .inl (cI, 10, .inl (va_cpy qb_to q_to 0 0 10))), (q6, .inl (cI, 10, .inl (va_cpy qb_width q_width 0 0 10))), (q7, .inl (cI, 10, .inl q_length)), (q8, .inl (cI, 10, .inl q_shut)), (qbh, .inr (2, [.ref qb0, .ref qb1, .int qb_safeRooms, .int qb_passages, .ref qb4, .ref qb5, .ref qb6, .ref qb7, .ref qb8])), (qb0, .inl (cI, 6, .inl qb_people)), (qb1, .inl (cI, 6, .inl qb_area)), (qb4, .inl (cI, 10, .inl qb_from)), (qb5, .inl (cI, 10, .inl qb_to)), (qb6, .inl (cI, 10, .inl qb_width)), (qb7, .inl (cI, 10, .inl qb_length)), (qb8, .inl (cI, 10, .inl qb_shut))] := hD
  refine lv_aload_n hx hb dX2_copy_91 rfl (lv_at hl 1 rfl) ?_
  refine va_get (D := D) (ci := 2) (v := .ref qb7) (C := RX2) (T := TX2) (N := 9) hx hb hts iX2 hown hK hP 8 rfl rfl 7 (by decide) (hts _ kw_123) (fun _ h9 => h9) rfl dX2_copy_92 ?_
  refine lv_iconst (v := 0) hx hb dX2_copy_95 (by decide) ?_
  refine lv_aload_n hx hb dX2_copy_96 rfl (lv_at hl 0 rfl) ?_
  refine va_get (D := D) (ci := 2) (v := .ref q7) (C := RX2) (T := TX2) (N := 9) hx hb hts iX2 hown hK hP 0 rfl rfl 7 (by decide) (hts _ kw_123) (fun _ h9 => h9) rfl dX2_copy_97 ?_
  refine lv_iconst (v := 0) hx hb dX2_copy_100 (by decide) ?_
  refine lv_bipush (v := 10) hx hb dX2_copy_101 (by decide) ?_
  refine va_copyi (sp := 0) (dp := 0) (n := 10) hx hb (hml.trans hl.1.symm) hown (hts _ kw_534) (hts _ kw_386) (hts _ kw_385) (hts _ kw_78) hK hP hD hS 14 6 0 0 rfl rfl rfl rfl rfl (by decide) (by decide) (by decide) (by decide) (by decide) (fun _ _ => rfl) (Nat.le_of_ble_eq_true rfl) (Nat.le_of_ble_eq_true rfl) dX2_copy_103 (fun H locs hP hD hS => ?_)
  have hP : va_P D vwCl [(qh, .inr (2, [.ref q0, .ref q1, .int qb_safeRooms, .int qb_passages, .ref q4, .ref q5, .ref q6, .ref q7, .ref q8])), (q0, .inl (cI, 6, .inl (va_cpy qb_people q_people 0 0 6))), (q1, .inl (cI, 6, .inl (va_cpy qb_area q_area 0 0 6))), (q4, .inl (cI, 10, .inl (va_cpy qb_from q_from 0 0 10))), (q5, .inl (cI, 10, .inl (va_cpy qb_to q_to 0 0 10))), (q6, .inl (cI, 10, .inl (va_cpy qb_width q_width 0 0 10))), (q7, .inl (cI, 10, .inl (va_cpy qb_length q_length 0 0 10))), (q8, .inl (cI, 10, .inl q_shut)), (qbh, .inr (2, [.ref qb0, .ref qb1, .int qb_safeRooms, .int qb_passages, .ref qb4, .ref qb5, .ref qb6, .ref qb7, .ref qb8])), (qb0, .inl (cI, 6, .inl qb_people)), (qb1, .inl (cI, 6, .inl qb_area)), (qb4, .inl (cI, 10, .inl qb_from)), (qb5, .inl (cI, 10, .inl qb_to)), (qb6, .inl (cI, 10, .inl qb_width)), (qb7, .inl (cI, 10, .inl qb_length)), (qb8, .inl (cI, 10, .inl qb_shut))] H := hP
  have hD : va_D A [(qh, .inr (2, [.ref q0, .ref q1, .int qb_safeRooms, .int qb_passages, .ref q4, .ref q5, .ref q6, .ref q7, .ref q8])), (q0, .inl (cI, 6, .inl (va_cpy qb_people q_people 0 0 6))), (q1, .inl (cI, 6, .inl (va_cpy qb_area q_area 0 0 6))), (q4, .inl (cI, 10, .inl (va_cpy qb_from q_from 0 0 10))), (q5, .inl (cI, 10, .inl (va_cpy qb_to q_to 0 0 10))), (q6, .inl (cI, 10, .inl (va_cpy qb_width q_width 0 0 10))), (q7, .inl (cI, 10, .inl (va_cpy qb_length q_length 0 0 10))), (q8, .inl (cI, 10, .inl q_shut)), (qbh, .inr (2, [.ref qb0, .ref qb1, .int qb_safeRooms, .int qb_passages, .ref qb4, .ref qb5, .ref qb6, .ref qb7, .ref qb8])), (qb0, .inl (cI, 6, .inl qb_people)), (qb1, .inl (cI, 6, .inl qb_area)), (qb4, .inl (cI, 10, .inl qb_from)), (qb5, .inl (cI, 10, .inl qb_to)), (qb6, .inl (cI, 10, .inl qb_width)), (qb7, .inl (cI, 10, .inl qb_length)), (qb8, .inl (cI, 10, .inl qb_shut))] := hD
  refine lv_aload_n hx hb dX2_copy_106 rfl (lv_at hl 1 rfl) ?_
  refine va_get (D := D) (ci := 2) (v := .ref qb8) (C := RX2) (T := TX2) (N := 9) hx hb hts iX2 hown hK hP 8 rfl rfl 8 (by decide) (hts _ kw_127) (fun _ h9 => h9) rfl dX2_copy_107 ?_
  refine lv_iconst (v := 0) hx hb dX2_copy_110 (by decide) ?_
  refine lv_aload_n hx hb dX2_copy_111 rfl (lv_at hl 0 rfl) ?_
  refine va_get (D := D) (ci := 2) (v := .ref q8) (C := RX2) (T := TX2) (N := 9) hx hb hts iX2 hown hK hP 0 rfl rfl 8 (by decide) (hts _ kw_127) (fun _ h9 => h9) rfl dX2_copy_112 ?_
  refine lv_iconst (v := 0) hx hb dX2_copy_115 (by decide) ?_
  refine lv_bipush (v := 10) hx hb dX2_copy_116 (by decide) ?_
  refine va_copyi (sp := 0) (dp := 0) (n := 10) hx hb (hml.trans hl.1.symm) hown (hts _ kw_534) (hts _ kw_386) (hts _ kw_385) (hts _ kw_78) hK hP hD hS 15 7 0 0 rfl rfl rfl rfl rfl (by decide) (by decide) (by decide) (by decide) (by decide) (fun _ _ => rfl) (Nat.le_of_ble_eq_true rfl) (Nat.le_of_ble_eq_true rfl) dX2_copy_118 (fun H locs hP hD hS => ?_)
  have hP : va_P D vwCl [(qh, .inr (2, [.ref q0, .ref q1, .int qb_safeRooms, .int qb_passages, .ref q4, .ref q5, .ref q6, .ref q7, .ref q8])), (q0, .inl (cI, 6, .inl (va_cpy qb_people q_people 0 0 6))), (q1, .inl (cI, 6, .inl (va_cpy qb_area q_area 0 0 6))), (q4, .inl (cI, 10, .inl (va_cpy qb_from q_from 0 0 10))), (q5, .inl (cI, 10, .inl (va_cpy qb_to q_to 0 0 10))), (q6, .inl (cI, 10, .inl (va_cpy qb_width q_width 0 0 10))), (q7, .inl (cI, 10, .inl (va_cpy qb_length q_length 0 0 10))), (q8, .inl (cI, 10, .inl (va_cpy qb_shut q_shut 0 0 10))), (qbh, .inr (2, [.ref qb0, .ref qb1, .int qb_safeRooms, .int qb_passages, .ref qb4, .ref qb5, .ref qb6, .ref qb7, .ref qb8])), (qb0, .inl (cI, 6, .inl qb_people)), (qb1, .inl (cI, 6, .inl qb_area)), (qb4, .inl (cI, 10, .inl qb_from)), (qb5, .inl (cI, 10, .inl qb_to)), (qb6, .inl (cI, 10, .inl qb_width)), (qb7, .inl (cI, 10, .inl qb_length)), (qb8, .inl (cI, 10, .inl qb_shut))] H := hP
  have hD : va_D A [(qh, .inr (2, [.ref q0, .ref q1, .int qb_safeRooms, .int qb_passages, .ref q4, .ref q5, .ref q6, .ref q7, .ref q8])), (q0, .inl (cI, 6, .inl (va_cpy qb_people q_people 0 0 6))), (q1, .inl (cI, 6, .inl (va_cpy qb_area q_area 0 0 6))), (q4, .inl (cI, 10, .inl (va_cpy qb_from q_from 0 0 10))), (q5, .inl (cI, 10, .inl (va_cpy qb_to q_to 0 0 10))), (q6, .inl (cI, 10, .inl (va_cpy qb_width q_width 0 0 10))), (q7, .inl (cI, 10, .inl (va_cpy qb_length q_length 0 0 10))), (q8, .inl (cI, 10, .inl (va_cpy qb_shut q_shut 0 0 10))), (qbh, .inr (2, [.ref qb0, .ref qb1, .int qb_safeRooms, .int qb_passages, .ref qb4, .ref qb5, .ref qb6, .ref qb7, .ref qb8])), (qb0, .inl (cI, 6, .inl qb_people)), (qb1, .inl (cI, 6, .inl qb_area)), (qb4, .inl (cI, 10, .inl qb_from)), (qb5, .inl (cI, 10, .inl qb_to)), (qb6, .inl (cI, 10, .inl qb_width)), (qb7, .inl (cI, 10, .inl qb_length)), (qb8, .inl (cI, 10, .inl qb_shut))] := hD
  exact lw_vret C ((va_cpy qb_people q_people 0 0 6), (va_cpy qb_area q_area 0 0 6), qb_safeRooms, qb_passages, (va_cpy qb_from q_from 0 0 10), (va_cpy qb_to q_to 0 0 10), (va_cpy qb_width q_width 0 0 10), (va_cpy qb_length q_length 0 0 10), (va_cpy qb_shut q_shut 0 0 10)) hv hP hD hS dX2_copy_121

def vc_X2_shutTickOrNone (a1 : Int32) (q_shut : (Nat → Int32)) (post : Int32 → Unit → Prop) : Prop :=
  (vp_in a1 10 ∧ ((¬ (q_shut a1.toNatClampNeg) = 1000 → (vp_in a1 10 ∧ post (q_shut a1.toNatClampNeg) ())) ∧ ((q_shut a1.toNatClampNeg) = 1000 → post (-6) ())))

set_option maxHeartbeats 4000000 in
set_option maxRecDepth 100000 in
theorem m_X2_shutTickOrNone (l : Launch) (D : va_G) (cI cZ : ClassId) (qh q0 q1 q4 q5 q6 q7 q8 : Nat) (a1 : Int32) (q_people : (Nat → Int32)) (q_area : (Nat → Int32)) (q_safeRooms : Int32) (q_passages : Int32) (q_from : (Nat → Int32)) (q_to : (Nat → Int32)) (q_width : (Nat → Int32)) (q_length : (Nat → Int32)) (q_shut : (Nat → Int32)) (sz : Nat) {post : Int32 → Unit → Prop} (hv : vc_X2_shutTickOrNone a1 q_shut post) :
    Met l yX2_shutTickOrNone (Cond.code yX2_shutTickOrNone cX2_shutTickOrNone 2 (some .int) :: lw_good) ({ frames := 0, cells := 0, slots := 0, locals := 0 } : Room) (va_Pc [.ref qh, .int a1] (lw_B D cI cZ [(qh, .inr (2, [.ref q0, .ref q1, .int q_safeRooms, .int q_passages, .ref q4, .ref q5, .ref q6, .ref q7, .ref q8])), (q0, .inl (cI, 6, .inl q_people)), (q1, .inl (cI, 6, .inl q_area)), (q4, .inl (cI, 10, .inl q_from)), (q5, .inl (cI, 10, .inl q_to)), (q6, .inl (cI, 10, .inl q_width)), (q7, .inl (cI, 10, .inl q_length)), (q8, .inl (cI, 10, .inl q_shut))] sz)) (lw_Qi D cI cZ (va_A [(qh, .inr (2, [.ref q0, .ref q1, .int q_safeRooms, .int q_passages, .ref q4, .ref q5, .ref q6, .ref q7, .ref q8])), (q0, .inl (cI, 6, .inl q_people)), (q1, .inl (cI, 6, .inl q_area)), (q4, .inl (cI, 10, .inl q_from)), (q5, .inl (cI, 10, .inl q_to)), (q6, .inl (cI, 10, .inl q_width)), (q7, .inl (cI, 10, .inl q_length)), (q8, .inl (cI, 10, .inl q_shut))] sz) (fun u : Unit => [(qh, .inr (2, [.ref q0, .ref q1, .int q_safeRooms, .int q_passages, .ref q4, .ref q5, .ref q6, .ref q7, .ref q8])), (q0, .inl (cI, 6, .inl q_people)), (q1, .inl (cI, 6, .inl q_area)), (q4, .inl (cI, 10, .inl q_from)), (q5, .inl (cI, 10, .inl q_to)), (q6, .inl (cI, 10, .inl q_width)), (q7, .inl (cI, 10, .inl q_length)), (q8, .inl (cI, 10, .inl q_shut))]) post) 0 0 (va_A [(qh, .inr (2, [.ref q0, .ref q1, .int q_safeRooms, .int q_passages, .ref q4, .ref q5, .ref q6, .ref q7, .ref q8])), (q0, .inl (cI, 6, .inl q_people)), (q1, .inl (cI, 6, .inl q_area)), (q4, .inl (cI, 10, .inl q_from)), (q5, .inl (cI, 10, .inl q_to)), (q6, .inl (cI, 10, .inl q_width)), (q7, .inl (cI, 10, .inl q_length)), (q8, .inl (cI, 10, .inl q_shut))] sz) := by
  refine lw_met (Q := fun A => lw_Qi D cI cZ A (fun u : Unit => [(qh, .inr (2, [.ref q0, .ref q1, .int q_safeRooms, .int q_passages, .ref q4, .ref q5, .ref q6, .ref q7, .ref q8])), (q0, .inl (cI, 6, .inl q_people)), (q1, .inl (cI, 6, .inl q_area)), (q4, .inl (cI, 10, .inl q_from)), (q5, .inl (cI, 10, .inl q_to)), (q6, .inl (cI, 10, .inl q_width)), (q7, .inl (cI, 10, .inl q_length)), (q8, .inl (cI, 10, .inl q_shut))]) post) (by decide) (Nat.le_of_ble_eq_true rfl) ?_
  intro p e s m below meth c A C hnm hP hD hS ls hl
  have C : lw_Cx D cI cZ p s m _ meth c cX2_shutTickOrNone 2 (some .int) RX2 A := C
  obtain ⟨hx, hb, hr, hml, hown, hts, hlocks, hN, hK, hA⟩ := id C
  have hl : lv_has ls 2 [(0, .ref qh), (1, .int a1)] := hl
  obtain ⟨H, hH⟩ : ∃ H, H = s.heap := ⟨_, rfl⟩
  rw [← hH] at hP
  have hS : va_S A s.heap H [] := by rw [hH]; exact hS
  suffices hgoal : W p l e ({ frames := 0, cells := 0, slots := 0, locals := 0 } : Room) s m #[.ref qh, .int a1] below meth c H [] 0 0 (MQ below (lw_Qi D cI cZ A (fun u : Unit => [(qh, .inr (2, [.ref q0, .ref q1, .int q_safeRooms, .int q_passages, .ref q4, .ref q5, .ref q6, .ref q7, .ref q8])), (q0, .inl (cI, 6, .inl q_people)), (q1, .inl (cI, 6, .inl q_area)), (q4, .inl (cI, 10, .inl q_from)), (q5, .inl (cI, 10, .inl q_to)), (q6, .inl (cI, 10, .inl q_width)), (q7, .inl (cI, 10, .inl q_length)), (q8, .inl (cI, 10, .inl q_shut))]) post) #[.ref qh, .int a1] s 0 0 A) (F0 m 0 ls []) by rw [hH] at hgoal; exact hgoal
  obtain ⟨locs, hlo⟩ : ∃ locs : List Loc, locs = [] := ⟨_, rfl⟩
  rw [← hlo] at hS ⊢
  rw [vc_X2_shutTickOrNone] at hv
  refine lv_aload_n hx hb dX2_shutTickOrNone_0 rfl (lv_at hl 0 rfl) ?_
  refine va_get (D := D) (ci := 2) (v := .ref q8) (C := RX2) (T := TX2) (N := 9) hx hb hts iX2 hown hK hP 0 rfl rfl 8 (by decide) (hts _ kw_127) (fun _ h9 => h9) rfl dX2_shutTickOrNone_1 ?_
  refine lv_iload_n hx hb dX2_shutTickOrNone_4 rfl (lv_at hl 1 rfl) ?_
  obtain ⟨hi_1, hv⟩ := hv
  refine va_iald hx hb hK hP 7 0 rfl rfl hi_1 dX2_shutTickOrNone_5 ?_
  refine lv_sipush (v := 1000) hx hb dX2_shutTickOrNone_6 (by decide) ?_
  refine lv_icmp_ne (tgt := 17) hx hb dX2_shutTickOrNone_9 (by decide) (fun c9 => ?_) (fun c9 => ?_)
  · have hv := hv.1 c9
    refine lv_aload_n hx hb dX2_shutTickOrNone_17 rfl (lv_at hl 0 rfl) ?_
    refine va_get (D := D) (ci := 2) (v := .ref q8) (C := RX2) (T := TX2) (N := 9) hx hb hts iX2 hown hK hP 0 rfl rfl 8 (by decide) (hts _ kw_127) (fun _ h9 => h9) rfl dX2_shutTickOrNone_18 ?_
    refine lv_iload_n hx hb dX2_shutTickOrNone_21 rfl (lv_at hl 1 rfl) ?_
    obtain ⟨hi_2, hv⟩ := hv
    refine va_iald hx hb hK hP 7 0 rfl rfl hi_2 dX2_shutTickOrNone_22 ?_
    exact lw_iret C () hv hP hD hS dX2_shutTickOrNone_23
  · have hv := hv.2 c9
    refine lv_bipush (v := (-6)) hx hb dX2_shutTickOrNone_12 (by decide) ?_
    refine lv_goto (tgt := 23) hx hb dX2_shutTickOrNone_14 (by decide) ?_
    exact lw_iret C () hv hP hD hS dX2_shutTickOrNone_23

def vc_X2_passagesEverShut_L4 (K : Int32 → Prop) (q_passages : Int32) (q_shut : (Nat → Int32)) : Nat → Int32 → Int32 → Prop
  | 0, _, _ => False
  | n + 1, v1, v2 =>
    ((q_passages ≤ v2 → K v1) ∧ (¬ q_passages ≤ v2 → (vp_in v2 10 ∧ (((q_shut v2.toNatClampNeg) = 1000 → (∀ x2_2 : Int32, x2_2 = v2 + 1 → vc_X2_passagesEverShut_L4 K q_passages q_shut n v1 x2_2)) ∧ (¬ (q_shut v2.toNatClampNeg) = 1000 → (∀ x1_3 : Int32, x1_3 = v1 + 1 → (∀ x2_4 : Int32, x2_4 = v2 + 1 → vc_X2_passagesEverShut_L4 K q_passages q_shut n x1_3 x2_4)))))))

set_option maxHeartbeats 4000000 in
set_option maxRecDepth 100000 in
theorem w_X2_passagesEverShut_L4 {p : Program} {l : Launch} {e : Env} {s : State} {m : MethodId} {args : Array Value} {below : List Frame} {meth : Method} {c : Code} {D : va_G} {cI cZ : ClassId} {A : Nat → Prop} {Q : State → Prop} (qh q0 q1 q4 q5 q6 q7 q8 : Nat) (q_people : (Nat → Int32)) (q_area : (Nat → Int32)) (q_safeRooms : Int32) (q_passages : Int32) (q_from : (Nat → Int32)) (q_to : (Nat → Int32)) (q_width : (Nat → Int32)) (q_length : (Nat → Int32)) (q_shut : (Nat → Int32)) (C : lw_Cx D cI cZ p s m args meth c cX2_passagesEverShut 3 (some .int) RX2 A) (K : Int32 → Prop) (hKx : ∀ (k1 : Int32) (H : Heap) (locs : List Loc) (ls : Array Slot), K k1 → va_P D vwCl [(qh, .inr (2, [.ref q0, .ref q1, .int q_safeRooms, .int q_passages, .ref q4, .ref q5, .ref q6, .ref q7, .ref q8])), (q0, .inl (cI, 6, .inl q_people)), (q1, .inl (cI, 6, .inl q_area)), (q4, .inl (cI, 10, .inl q_from)), (q5, .inl (cI, 10, .inl q_to)), (q6, .inl (cI, 10, .inl q_width)), (q7, .inl (cI, 10, .inl q_length)), (q8, .inl (cI, 10, .inl q_shut))] H → va_D A [(qh, .inr (2, [.ref q0, .ref q1, .int q_safeRooms, .int q_passages, .ref q4, .ref q5, .ref q6, .ref q7, .ref q8])), (q0, .inl (cI, 6, .inl q_people)), (q1, .inl (cI, 6, .inl q_area)), (q4, .inl (cI, 10, .inl q_from)), (q5, .inl (cI, 10, .inl q_to)), (q6, .inl (cI, 10, .inl q_width)), (q7, .inl (cI, 10, .inl q_length)), (q8, .inl (cI, 10, .inl q_shut))] → va_S A s.heap H locs → lv_has ls 3 [(1, .int k1)] → W p l e ({ frames := 0, cells := 0, slots := 0, locals := 0 } : Room) s m args below meth c H locs 0 0 Q (F0 m 33 ls [])) :
    ∀ (n : Nat) (v1 : Int32) (v2 : Int32) (H : Heap) (locs : List Loc) (ls : Array Slot), vc_X2_passagesEverShut_L4 K q_passages q_shut n v1 v2 → va_P D vwCl [(qh, .inr (2, [.ref q0, .ref q1, .int q_safeRooms, .int q_passages, .ref q4, .ref q5, .ref q6, .ref q7, .ref q8])), (q0, .inl (cI, 6, .inl q_people)), (q1, .inl (cI, 6, .inl q_area)), (q4, .inl (cI, 10, .inl q_from)), (q5, .inl (cI, 10, .inl q_to)), (q6, .inl (cI, 10, .inl q_width)), (q7, .inl (cI, 10, .inl q_length)), (q8, .inl (cI, 10, .inl q_shut))] H → va_D A [(qh, .inr (2, [.ref q0, .ref q1, .int q_safeRooms, .int q_passages, .ref q4, .ref q5, .ref q6, .ref q7, .ref q8])), (q0, .inl (cI, 6, .inl q_people)), (q1, .inl (cI, 6, .inl q_area)), (q4, .inl (cI, 10, .inl q_from)), (q5, .inl (cI, 10, .inl q_to)), (q6, .inl (cI, 10, .inl q_width)), (q7, .inl (cI, 10, .inl q_length)), (q8, .inl (cI, 10, .inl q_shut))] → va_S A s.heap H locs → lv_has ls 3 [(0, .ref qh), (1, .int v1), (2, .int v2)] → W p l e ({ frames := 0, cells := 0, slots := 0, locals := 0 } : Room) s m args below meth c H locs 0 0 Q (F0 m 4 ls []) := by
  obtain ⟨hx, hb, hr, hml, hown, hts, hlocks, hN, hK, hA⟩ := id C
  intro n
  induction n with
  | zero =>
    intro v1 v2 H locs ls hv
    exact False.elim hv
  | succ n ih =>
    intro v1 v2 H locs ls hv hP hD hS hl
    rw [vc_X2_passagesEverShut_L4] at hv
    refine lv_iload_n hx hb dX2_passagesEverShut_4 rfl (lv_at hl 2 rfl) ?_
    refine lv_aload_n hx hb dX2_passagesEverShut_5 rfl (lv_at hl 0 rfl) ?_
    refine va_get (D := D) (ci := 2) (v := .int q_passages) (C := RX2) (T := TX2) (N := 9) hx hb hts iX2 hown hK hP 0 rfl rfl 3 (by decide) (hts _ kw_107) (fun _ h9 => h9) rfl dX2_passagesEverShut_6 ?_
    refine lv_icmp_ge (tgt := 33) hx hb dX2_passagesEverShut_9 (by decide) (fun c9 => ?_) (fun c9 => ?_)
    · have hv := hv.1 c9
      exact hKx v1 H locs ls hv hP hD hS (lv_sub hl [1] rfl)
    · have hv := hv.2 c9
      refine lv_aload_n hx hb dX2_passagesEverShut_12 rfl (lv_at hl 0 rfl) ?_
      refine va_get (D := D) (ci := 2) (v := .ref q8) (C := RX2) (T := TX2) (N := 9) hx hb hts iX2 hown hK hP 0 rfl rfl 8 (by decide) (hts _ kw_127) (fun _ h9 => h9) rfl dX2_passagesEverShut_13 ?_
      refine lv_iload_n hx hb dX2_passagesEverShut_16 rfl (lv_at hl 2 rfl) ?_
      obtain ⟨hi_1, hv⟩ := hv
      refine va_iald hx hb hK hP 7 0 rfl rfl hi_1 dX2_passagesEverShut_17 ?_
      refine lv_sipush (v := 1000) hx hb dX2_passagesEverShut_18 (by decide) ?_
      refine lv_icmp_eq (tgt := 27) hx hb dX2_passagesEverShut_21 (by decide) (fun c9 => ?_) (fun c9 => ?_)
      · have hv := hv.1 c9
        obtain ⟨x2_2, ex2_2⟩ : ∃ y : Int32, y = v2 + 1 := ⟨_, rfl⟩
        have hv := hv x2_2 ex2_2
        refine lv_iinc (v := x2_2) (lv' := [(2, .int x2_2), (0, .ref qh), (1, .int v1)]) hx hb dX2_passagesEverShut_27 hl (k := 2) rfl (by rw [ex2_2]; rfl) (by decide) rfl (fun ls hl => ?_)
        refine lv_goto (tgt := 4) hx hb dX2_passagesEverShut_30 (by decide) ?_
        exact ih v1 x2_2 H locs ls hv hP hD hS (lv_sub hl [1, 2, 0] rfl)
      · have hv := hv.2 c9
        obtain ⟨x1_3, ex1_3⟩ : ∃ y : Int32, y = v1 + 1 := ⟨_, rfl⟩
        have hv := hv x1_3 ex1_3
        refine lv_iinc (v := x1_3) (lv' := [(1, .int x1_3), (0, .ref qh), (2, .int v2)]) hx hb dX2_passagesEverShut_24 hl (k := 1) rfl (by rw [ex1_3]; rfl) (by decide) rfl (fun ls hl => ?_)
        obtain ⟨x2_4, ex2_4⟩ : ∃ y : Int32, y = v2 + 1 := ⟨_, rfl⟩
        have hv := hv x2_4 ex2_4
        refine lv_iinc (v := x2_4) (lv' := [(2, .int x2_4), (1, .int x1_3), (0, .ref qh)]) hx hb dX2_passagesEverShut_27 hl (k := 2) rfl (by rw [ex2_4]; rfl) (by decide) rfl (fun ls hl => ?_)
        refine lv_goto (tgt := 4) hx hb dX2_passagesEverShut_30 (by decide) ?_
        exact ih x1_3 x2_4 H locs ls hv hP hD hS (lv_sub hl [2, 1, 0] rfl)

def vc_X2_passagesEverShut (q_passages : Int32) (q_shut : (Nat → Int32)) (post : Int32 → Unit → Prop) : Prop :=
  (∃ n_6, vc_X2_passagesEverShut_L4 (fun k1_5 => post k1_5 ())  q_passages q_shut n_6 0 0)

set_option maxHeartbeats 4000000 in
set_option maxRecDepth 100000 in
theorem m_X2_passagesEverShut (l : Launch) (D : va_G) (cI cZ : ClassId) (qh q0 q1 q4 q5 q6 q7 q8 : Nat) (q_people : (Nat → Int32)) (q_area : (Nat → Int32)) (q_safeRooms : Int32) (q_passages : Int32) (q_from : (Nat → Int32)) (q_to : (Nat → Int32)) (q_width : (Nat → Int32)) (q_length : (Nat → Int32)) (q_shut : (Nat → Int32)) (sz : Nat) {post : Int32 → Unit → Prop} (hv : vc_X2_passagesEverShut q_passages q_shut post) :
    Met l yX2_passagesEverShut (Cond.code yX2_passagesEverShut cX2_passagesEverShut 3 (some .int) :: lw_good) ({ frames := 0, cells := 0, slots := 0, locals := 0 } : Room) (va_Pc [.ref qh] (lw_B D cI cZ [(qh, .inr (2, [.ref q0, .ref q1, .int q_safeRooms, .int q_passages, .ref q4, .ref q5, .ref q6, .ref q7, .ref q8])), (q0, .inl (cI, 6, .inl q_people)), (q1, .inl (cI, 6, .inl q_area)), (q4, .inl (cI, 10, .inl q_from)), (q5, .inl (cI, 10, .inl q_to)), (q6, .inl (cI, 10, .inl q_width)), (q7, .inl (cI, 10, .inl q_length)), (q8, .inl (cI, 10, .inl q_shut))] sz)) (lw_Qi D cI cZ (va_A [(qh, .inr (2, [.ref q0, .ref q1, .int q_safeRooms, .int q_passages, .ref q4, .ref q5, .ref q6, .ref q7, .ref q8])), (q0, .inl (cI, 6, .inl q_people)), (q1, .inl (cI, 6, .inl q_area)), (q4, .inl (cI, 10, .inl q_from)), (q5, .inl (cI, 10, .inl q_to)), (q6, .inl (cI, 10, .inl q_width)), (q7, .inl (cI, 10, .inl q_length)), (q8, .inl (cI, 10, .inl q_shut))] sz) (fun u : Unit => [(qh, .inr (2, [.ref q0, .ref q1, .int q_safeRooms, .int q_passages, .ref q4, .ref q5, .ref q6, .ref q7, .ref q8])), (q0, .inl (cI, 6, .inl q_people)), (q1, .inl (cI, 6, .inl q_area)), (q4, .inl (cI, 10, .inl q_from)), (q5, .inl (cI, 10, .inl q_to)), (q6, .inl (cI, 10, .inl q_width)), (q7, .inl (cI, 10, .inl q_length)), (q8, .inl (cI, 10, .inl q_shut))]) post) 0 0 (va_A [(qh, .inr (2, [.ref q0, .ref q1, .int q_safeRooms, .int q_passages, .ref q4, .ref q5, .ref q6, .ref q7, .ref q8])), (q0, .inl (cI, 6, .inl q_people)), (q1, .inl (cI, 6, .inl q_area)), (q4, .inl (cI, 10, .inl q_from)), (q5, .inl (cI, 10, .inl q_to)), (q6, .inl (cI, 10, .inl q_width)), (q7, .inl (cI, 10, .inl q_length)), (q8, .inl (cI, 10, .inl q_shut))] sz) := by
  refine lw_met (Q := fun A => lw_Qi D cI cZ A (fun u : Unit => [(qh, .inr (2, [.ref q0, .ref q1, .int q_safeRooms, .int q_passages, .ref q4, .ref q5, .ref q6, .ref q7, .ref q8])), (q0, .inl (cI, 6, .inl q_people)), (q1, .inl (cI, 6, .inl q_area)), (q4, .inl (cI, 10, .inl q_from)), (q5, .inl (cI, 10, .inl q_to)), (q6, .inl (cI, 10, .inl q_width)), (q7, .inl (cI, 10, .inl q_length)), (q8, .inl (cI, 10, .inl q_shut))]) post) (by decide) (Nat.le_of_ble_eq_true rfl) ?_
  intro p e s m below meth c A C hnm hP hD hS ls hl
  have C : lw_Cx D cI cZ p s m _ meth c cX2_passagesEverShut 3 (some .int) RX2 A := C
  obtain ⟨hx, hb, hr, hml, hown, hts, hlocks, hN, hK, hA⟩ := id C
  have hl : lv_has ls 3 [(0, .ref qh)] := hl
  obtain ⟨H, hH⟩ : ∃ H, H = s.heap := ⟨_, rfl⟩
  rw [← hH] at hP
  have hS : va_S A s.heap H [] := by rw [hH]; exact hS
  suffices hgoal : W p l e ({ frames := 0, cells := 0, slots := 0, locals := 0 } : Room) s m #[.ref qh] below meth c H [] 0 0 (MQ below (lw_Qi D cI cZ A (fun u : Unit => [(qh, .inr (2, [.ref q0, .ref q1, .int q_safeRooms, .int q_passages, .ref q4, .ref q5, .ref q6, .ref q7, .ref q8])), (q0, .inl (cI, 6, .inl q_people)), (q1, .inl (cI, 6, .inl q_area)), (q4, .inl (cI, 10, .inl q_from)), (q5, .inl (cI, 10, .inl q_to)), (q6, .inl (cI, 10, .inl q_width)), (q7, .inl (cI, 10, .inl q_length)), (q8, .inl (cI, 10, .inl q_shut))]) post) #[.ref qh] s 0 0 A) (F0 m 0 ls []) by rw [hH] at hgoal; exact hgoal
  obtain ⟨locs, hlo⟩ : ∃ locs : List Loc, locs = [] := ⟨_, rfl⟩
  rw [← hlo] at hS ⊢
  rw [vc_X2_passagesEverShut] at hv
  refine lv_iconst (v := 0) hx hb dX2_passagesEverShut_0 (by decide) ?_
  refine lv_istore_n (lv' := [(1, .int 0), (0, .ref qh)]) hx hb dX2_passagesEverShut_1 rfl hl (by decide) rfl (fun ls hl => ?_)
  refine lv_iconst (v := 0) hx hb dX2_passagesEverShut_2 (by decide) ?_
  refine lv_istore_n (lv' := [(2, .int 0), (1, .int 0), (0, .ref qh)]) hx hb dX2_passagesEverShut_3 rfl hl (by decide) rfl (fun ls hl => ?_)
  obtain ⟨n_6, hv⟩ := hv
  refine w_X2_passagesEverShut_L4 qh q0 q1 q4 q5 q6 q7 q8 q_people q_area q_safeRooms q_passages q_from q_to q_width q_length q_shut C _ (fun k1_5 H locs ls hv hP hD hS hl => ?_) n_6 0 0 H locs ls hv hP hD hS (lv_sub hl [2, 1, 0] rfl)
  refine lv_iload_n hx hb dX2_passagesEverShut_33 rfl (lv_at hl 0 rfl) ?_
  exact lw_iret C () hv hP hD hS dX2_passagesEverShut_34

def vc_X2_anyShutsAt_L2 (K : Prop) (post : Int32 → Unit → Prop) (b1 : Int32) (q_passages : Int32) (q_shut : (Nat → Int32)) : Nat → Int32 → Prop
  | 0, _ => False
  | n + 1, v2 =>
    ((q_passages ≤ v2 → K) ∧ (¬ q_passages ≤ v2 → (vp_in v2 10 ∧ ((¬ (q_shut v2.toNatClampNeg) = b1 → (∀ x2_2 : Int32, x2_2 = v2 + 1 → vc_X2_anyShutsAt_L2 K post b1 q_passages q_shut n x2_2)) ∧ ((q_shut v2.toNatClampNeg) = b1 → post 1 ())))))

set_option maxHeartbeats 4000000 in
set_option maxRecDepth 100000 in
theorem w_X2_anyShutsAt_L2 {p : Program} {l : Launch} {e : Env} {s : State} {m : MethodId} {args : Array Value} {below : List Frame} {meth : Method} {c : Code} {D : va_G} {cI cZ : ClassId} {A : Nat → Prop} (qh q0 q1 q4 q5 q6 q7 q8 : Nat) (b1 : Int32) (q_people : (Nat → Int32)) (q_area : (Nat → Int32)) (q_safeRooms : Int32) (q_passages : Int32) (q_from : (Nat → Int32)) (q_to : (Nat → Int32)) (q_width : (Nat → Int32)) (q_length : (Nat → Int32)) (q_shut : (Nat → Int32)) (post : Int32 → Unit → Prop) (C : lw_Cx D cI cZ p s m args meth c cX2_anyShutsAt 3 (some .boolean) RX2 A) (K : Prop) (hKx : ∀  (H : Heap) (locs : List Loc) (ls : Array Slot), K  → va_P D vwCl [(qh, .inr (2, [.ref q0, .ref q1, .int q_safeRooms, .int q_passages, .ref q4, .ref q5, .ref q6, .ref q7, .ref q8])), (q0, .inl (cI, 6, .inl q_people)), (q1, .inl (cI, 6, .inl q_area)), (q4, .inl (cI, 10, .inl q_from)), (q5, .inl (cI, 10, .inl q_to)), (q6, .inl (cI, 10, .inl q_width)), (q7, .inl (cI, 10, .inl q_length)), (q8, .inl (cI, 10, .inl q_shut))] H → va_D A [(qh, .inr (2, [.ref q0, .ref q1, .int q_safeRooms, .int q_passages, .ref q4, .ref q5, .ref q6, .ref q7, .ref q8])), (q0, .inl (cI, 6, .inl q_people)), (q1, .inl (cI, 6, .inl q_area)), (q4, .inl (cI, 10, .inl q_from)), (q5, .inl (cI, 10, .inl q_to)), (q6, .inl (cI, 10, .inl q_width)), (q7, .inl (cI, 10, .inl q_length)), (q8, .inl (cI, 10, .inl q_shut))] → va_S A s.heap H locs → lv_has ls 3 [] → W p l e ({ frames := 0, cells := 0, slots := 0, locals := 0 } : Room) s m args below meth c H locs 0 0 (MQ below (lw_Qi D cI cZ A (fun u : Unit => [(qh, .inr (2, [.ref q0, .ref q1, .int q_safeRooms, .int q_passages, .ref q4, .ref q5, .ref q6, .ref q7, .ref q8])), (q0, .inl (cI, 6, .inl q_people)), (q1, .inl (cI, 6, .inl q_area)), (q4, .inl (cI, 10, .inl q_from)), (q5, .inl (cI, 10, .inl q_to)), (q6, .inl (cI, 10, .inl q_width)), (q7, .inl (cI, 10, .inl q_length)), (q8, .inl (cI, 10, .inl q_shut))]) post) args s 0 0 A) (F0 m 28 ls [])) :
    ∀ (n : Nat) (v2 : Int32) (H : Heap) (locs : List Loc) (ls : Array Slot), vc_X2_anyShutsAt_L2 K post b1 q_passages q_shut n v2 → va_P D vwCl [(qh, .inr (2, [.ref q0, .ref q1, .int q_safeRooms, .int q_passages, .ref q4, .ref q5, .ref q6, .ref q7, .ref q8])), (q0, .inl (cI, 6, .inl q_people)), (q1, .inl (cI, 6, .inl q_area)), (q4, .inl (cI, 10, .inl q_from)), (q5, .inl (cI, 10, .inl q_to)), (q6, .inl (cI, 10, .inl q_width)), (q7, .inl (cI, 10, .inl q_length)), (q8, .inl (cI, 10, .inl q_shut))] H → va_D A [(qh, .inr (2, [.ref q0, .ref q1, .int q_safeRooms, .int q_passages, .ref q4, .ref q5, .ref q6, .ref q7, .ref q8])), (q0, .inl (cI, 6, .inl q_people)), (q1, .inl (cI, 6, .inl q_area)), (q4, .inl (cI, 10, .inl q_from)), (q5, .inl (cI, 10, .inl q_to)), (q6, .inl (cI, 10, .inl q_width)), (q7, .inl (cI, 10, .inl q_length)), (q8, .inl (cI, 10, .inl q_shut))] → va_S A s.heap H locs → lv_has ls 3 [(0, .ref qh), (1, .int b1), (2, .int v2)] → W p l e ({ frames := 0, cells := 0, slots := 0, locals := 0 } : Room) s m args below meth c H locs 0 0 (MQ below (lw_Qi D cI cZ A (fun u : Unit => [(qh, .inr (2, [.ref q0, .ref q1, .int q_safeRooms, .int q_passages, .ref q4, .ref q5, .ref q6, .ref q7, .ref q8])), (q0, .inl (cI, 6, .inl q_people)), (q1, .inl (cI, 6, .inl q_area)), (q4, .inl (cI, 10, .inl q_from)), (q5, .inl (cI, 10, .inl q_to)), (q6, .inl (cI, 10, .inl q_width)), (q7, .inl (cI, 10, .inl q_length)), (q8, .inl (cI, 10, .inl q_shut))]) post) args s 0 0 A) (F0 m 2 ls []) := by
  obtain ⟨hx, hb, hr, hml, hown, hts, hlocks, hN, hK, hA⟩ := id C
  intro n
  induction n with
  | zero =>
    intro v2 H locs ls hv
    exact False.elim hv
  | succ n ih =>
    intro v2 H locs ls hv hP hD hS hl
    rw [vc_X2_anyShutsAt_L2] at hv
    refine lv_iload_n hx hb dX2_anyShutsAt_2 rfl (lv_at hl 2 rfl) ?_
    refine lv_aload_n hx hb dX2_anyShutsAt_3 rfl (lv_at hl 0 rfl) ?_
    refine va_get (D := D) (ci := 2) (v := .int q_passages) (C := RX2) (T := TX2) (N := 9) hx hb hts iX2 hown hK hP 0 rfl rfl 3 (by decide) (hts _ kw_107) (fun _ h9 => h9) rfl dX2_anyShutsAt_4 ?_
    refine lv_icmp_ge (tgt := 28) hx hb dX2_anyShutsAt_7 (by decide) (fun c9 => ?_) (fun c9 => ?_)
    · have hv := hv.1 c9
      exact hKx  H locs ls hv hP hD hS (lv_sub hl [] rfl)
    · have hv := hv.2 c9
      refine lv_aload_n hx hb dX2_anyShutsAt_10 rfl (lv_at hl 0 rfl) ?_
      refine va_get (D := D) (ci := 2) (v := .ref q8) (C := RX2) (T := TX2) (N := 9) hx hb hts iX2 hown hK hP 0 rfl rfl 8 (by decide) (hts _ kw_127) (fun _ h9 => h9) rfl dX2_anyShutsAt_11 ?_
      refine lv_iload_n hx hb dX2_anyShutsAt_14 rfl (lv_at hl 2 rfl) ?_
      obtain ⟨hi_1, hv⟩ := hv
      refine va_iald hx hb hK hP 7 0 rfl rfl hi_1 dX2_anyShutsAt_15 ?_
      refine lv_iload_n hx hb dX2_anyShutsAt_16 rfl (lv_at hl 1 rfl) ?_
      refine lv_icmp_ne (tgt := 22) hx hb dX2_anyShutsAt_17 (by decide) (fun c9 => ?_) (fun c9 => ?_)
      · have hv := hv.1 c9
        obtain ⟨x2_2, ex2_2⟩ : ∃ y : Int32, y = v2 + 1 := ⟨_, rfl⟩
        have hv := hv x2_2 ex2_2
        refine lv_iinc (v := x2_2) (lv' := [(2, .int x2_2), (0, .ref qh), (1, .int b1)]) hx hb dX2_anyShutsAt_22 hl (k := 2) rfl (by rw [ex2_2]; rfl) (by decide) rfl (fun ls hl => ?_)
        refine lv_goto (tgt := 2) hx hb dX2_anyShutsAt_25 (by decide) ?_
        exact ih x2_2 H locs ls hv hP hD hS (lv_sub hl [1, 2, 0] rfl)
      · have hv := hv.2 c9
        refine lv_iconst (v := 1) hx hb dX2_anyShutsAt_20 (by decide) ?_
        exact lw_zret C () rfl hv hP hD hS dX2_anyShutsAt_21

def vc_X2_anyShutsAt (a1 : Int32) (q_passages : Int32) (q_shut : (Nat → Int32)) (post : Int32 → Unit → Prop) : Prop :=
  (∃ n_3, vc_X2_anyShutsAt_L2 (post 0 ()) post a1 q_passages q_shut n_3 0)

set_option maxHeartbeats 4000000 in
set_option maxRecDepth 100000 in
theorem m_X2_anyShutsAt (l : Launch) (D : va_G) (cI cZ : ClassId) (qh q0 q1 q4 q5 q6 q7 q8 : Nat) (a1 : Int32) (q_people : (Nat → Int32)) (q_area : (Nat → Int32)) (q_safeRooms : Int32) (q_passages : Int32) (q_from : (Nat → Int32)) (q_to : (Nat → Int32)) (q_width : (Nat → Int32)) (q_length : (Nat → Int32)) (q_shut : (Nat → Int32)) (sz : Nat) {post : Int32 → Unit → Prop} (hv : vc_X2_anyShutsAt a1 q_passages q_shut post) :
    Met l yX2_anyShutsAt (Cond.code yX2_anyShutsAt cX2_anyShutsAt 3 (some .boolean) :: lw_good) ({ frames := 0, cells := 0, slots := 0, locals := 0 } : Room) (va_Pc [.ref qh, .int a1] (lw_B D cI cZ [(qh, .inr (2, [.ref q0, .ref q1, .int q_safeRooms, .int q_passages, .ref q4, .ref q5, .ref q6, .ref q7, .ref q8])), (q0, .inl (cI, 6, .inl q_people)), (q1, .inl (cI, 6, .inl q_area)), (q4, .inl (cI, 10, .inl q_from)), (q5, .inl (cI, 10, .inl q_to)), (q6, .inl (cI, 10, .inl q_width)), (q7, .inl (cI, 10, .inl q_length)), (q8, .inl (cI, 10, .inl q_shut))] sz)) (lw_Qi D cI cZ (va_A [(qh, .inr (2, [.ref q0, .ref q1, .int q_safeRooms, .int q_passages, .ref q4, .ref q5, .ref q6, .ref q7, .ref q8])), (q0, .inl (cI, 6, .inl q_people)), (q1, .inl (cI, 6, .inl q_area)), (q4, .inl (cI, 10, .inl q_from)), (q5, .inl (cI, 10, .inl q_to)), (q6, .inl (cI, 10, .inl q_width)), (q7, .inl (cI, 10, .inl q_length)), (q8, .inl (cI, 10, .inl q_shut))] sz) (fun u : Unit => [(qh, .inr (2, [.ref q0, .ref q1, .int q_safeRooms, .int q_passages, .ref q4, .ref q5, .ref q6, .ref q7, .ref q8])), (q0, .inl (cI, 6, .inl q_people)), (q1, .inl (cI, 6, .inl q_area)), (q4, .inl (cI, 10, .inl q_from)), (q5, .inl (cI, 10, .inl q_to)), (q6, .inl (cI, 10, .inl q_width)), (q7, .inl (cI, 10, .inl q_length)), (q8, .inl (cI, 10, .inl q_shut))]) post) 0 0 (va_A [(qh, .inr (2, [.ref q0, .ref q1, .int q_safeRooms, .int q_passages, .ref q4, .ref q5, .ref q6, .ref q7, .ref q8])), (q0, .inl (cI, 6, .inl q_people)), (q1, .inl (cI, 6, .inl q_area)), (q4, .inl (cI, 10, .inl q_from)), (q5, .inl (cI, 10, .inl q_to)), (q6, .inl (cI, 10, .inl q_width)), (q7, .inl (cI, 10, .inl q_length)), (q8, .inl (cI, 10, .inl q_shut))] sz) := by
  refine lw_met (Q := fun A => lw_Qi D cI cZ A (fun u : Unit => [(qh, .inr (2, [.ref q0, .ref q1, .int q_safeRooms, .int q_passages, .ref q4, .ref q5, .ref q6, .ref q7, .ref q8])), (q0, .inl (cI, 6, .inl q_people)), (q1, .inl (cI, 6, .inl q_area)), (q4, .inl (cI, 10, .inl q_from)), (q5, .inl (cI, 10, .inl q_to)), (q6, .inl (cI, 10, .inl q_width)), (q7, .inl (cI, 10, .inl q_length)), (q8, .inl (cI, 10, .inl q_shut))]) post) (by decide) (Nat.le_of_ble_eq_true rfl) ?_
  intro p e s m below meth c A C hnm hP hD hS ls hl
  have C : lw_Cx D cI cZ p s m _ meth c cX2_anyShutsAt 3 (some .boolean) RX2 A := C
  obtain ⟨hx, hb, hr, hml, hown, hts, hlocks, hN, hK, hA⟩ := id C
  have hl : lv_has ls 3 [(0, .ref qh), (1, .int a1)] := hl
  obtain ⟨H, hH⟩ : ∃ H, H = s.heap := ⟨_, rfl⟩
  rw [← hH] at hP
  have hS : va_S A s.heap H [] := by rw [hH]; exact hS
  suffices hgoal : W p l e ({ frames := 0, cells := 0, slots := 0, locals := 0 } : Room) s m #[.ref qh, .int a1] below meth c H [] 0 0 (MQ below (lw_Qi D cI cZ A (fun u : Unit => [(qh, .inr (2, [.ref q0, .ref q1, .int q_safeRooms, .int q_passages, .ref q4, .ref q5, .ref q6, .ref q7, .ref q8])), (q0, .inl (cI, 6, .inl q_people)), (q1, .inl (cI, 6, .inl q_area)), (q4, .inl (cI, 10, .inl q_from)), (q5, .inl (cI, 10, .inl q_to)), (q6, .inl (cI, 10, .inl q_width)), (q7, .inl (cI, 10, .inl q_length)), (q8, .inl (cI, 10, .inl q_shut))]) post) #[.ref qh, .int a1] s 0 0 A) (F0 m 0 ls []) by rw [hH] at hgoal; exact hgoal
  obtain ⟨locs, hlo⟩ : ∃ locs : List Loc, locs = [] := ⟨_, rfl⟩
  rw [← hlo] at hS ⊢
  rw [vc_X2_anyShutsAt] at hv
  refine lv_iconst (v := 0) hx hb dX2_anyShutsAt_0 (by decide) ?_
  refine lv_istore_n (lv' := [(2, .int 0), (0, .ref qh), (1, .int a1)]) hx hb dX2_anyShutsAt_1 rfl hl (by decide) rfl (fun ls hl => ?_)
  obtain ⟨n_3, hv⟩ := hv
  refine w_X2_anyShutsAt_L2 qh q0 q1 q4 q5 q6 q7 q8 a1 q_people q_area q_safeRooms q_passages q_from q_to q_width q_length q_shut post C _ (fun  H locs ls hv hP hD hS hl => ?_) n_3 0 H locs ls hv hP hD hS (lv_sub hl [1, 2, 0] rfl)
  refine lv_iconst (v := 0) hx hb dX2_anyShutsAt_28 (by decide) ?_
  exact lw_zret C () rfl hv hP hD hS dX2_anyShutsAt_29

def vc_X2_crowd (a1 : Int32) (q_people : (Nat → Int32)) (q_area : (Nat → Int32)) (post : UInt32 → Unit → Prop) : Prop :=
  (vp_in a1 6 ∧ ((0 < (q_area a1.toNatClampNeg) → (vp_in a1 6 ∧ (vp_in a1 6 ∧ (vf_n32 (FP.fdiv (FP.i2f (q_people a1.toNatClampNeg)) (FP.i2f (q_area a1.toNatClampNeg))) ∧ post (FP.fdiv (FP.i2f (q_people a1.toNatClampNeg)) (FP.i2f (q_area a1.toNatClampNeg))) ())))) ∧ (¬ 0 < (q_area a1.toNatClampNeg) → post FP.fconst0 ())))

set_option maxHeartbeats 4000000 in
set_option maxRecDepth 100000 in
theorem m_X2_crowd (l : Launch) (D : va_G) (cI cZ : ClassId) (qh q0 q1 q4 q5 q6 q7 q8 : Nat) (a1 : Int32) (q_people : (Nat → Int32)) (q_area : (Nat → Int32)) (q_safeRooms : Int32) (q_passages : Int32) (q_from : (Nat → Int32)) (q_to : (Nat → Int32)) (q_width : (Nat → Int32)) (q_length : (Nat → Int32)) (q_shut : (Nat → Int32)) (sz : Nat) {post : UInt32 → Unit → Prop} (hv : vc_X2_crowd a1 q_people q_area post) :
    Met l yX2_crowd (Cond.code yX2_crowd cX2_crowd 2 (some .float) :: lw_good) ({ frames := 0, cells := 0, slots := 0, locals := 0 } : Room) (va_Pc [.ref qh, .int a1] (lw_B D cI cZ [(qh, .inr (2, [.ref q0, .ref q1, .int q_safeRooms, .int q_passages, .ref q4, .ref q5, .ref q6, .ref q7, .ref q8])), (q0, .inl (cI, 6, .inl q_people)), (q1, .inl (cI, 6, .inl q_area)), (q4, .inl (cI, 10, .inl q_from)), (q5, .inl (cI, 10, .inl q_to)), (q6, .inl (cI, 10, .inl q_width)), (q7, .inl (cI, 10, .inl q_length)), (q8, .inl (cI, 10, .inl q_shut))] sz)) (lw_Qf D cI cZ (va_A [(qh, .inr (2, [.ref q0, .ref q1, .int q_safeRooms, .int q_passages, .ref q4, .ref q5, .ref q6, .ref q7, .ref q8])), (q0, .inl (cI, 6, .inl q_people)), (q1, .inl (cI, 6, .inl q_area)), (q4, .inl (cI, 10, .inl q_from)), (q5, .inl (cI, 10, .inl q_to)), (q6, .inl (cI, 10, .inl q_width)), (q7, .inl (cI, 10, .inl q_length)), (q8, .inl (cI, 10, .inl q_shut))] sz) (fun u : Unit => [(qh, .inr (2, [.ref q0, .ref q1, .int q_safeRooms, .int q_passages, .ref q4, .ref q5, .ref q6, .ref q7, .ref q8])), (q0, .inl (cI, 6, .inl q_people)), (q1, .inl (cI, 6, .inl q_area)), (q4, .inl (cI, 10, .inl q_from)), (q5, .inl (cI, 10, .inl q_to)), (q6, .inl (cI, 10, .inl q_width)), (q7, .inl (cI, 10, .inl q_length)), (q8, .inl (cI, 10, .inl q_shut))]) post) 0 0 (va_A [(qh, .inr (2, [.ref q0, .ref q1, .int q_safeRooms, .int q_passages, .ref q4, .ref q5, .ref q6, .ref q7, .ref q8])), (q0, .inl (cI, 6, .inl q_people)), (q1, .inl (cI, 6, .inl q_area)), (q4, .inl (cI, 10, .inl q_from)), (q5, .inl (cI, 10, .inl q_to)), (q6, .inl (cI, 10, .inl q_width)), (q7, .inl (cI, 10, .inl q_length)), (q8, .inl (cI, 10, .inl q_shut))] sz) := by
  refine lw_met (Q := fun A => lw_Qf D cI cZ A (fun u : Unit => [(qh, .inr (2, [.ref q0, .ref q1, .int q_safeRooms, .int q_passages, .ref q4, .ref q5, .ref q6, .ref q7, .ref q8])), (q0, .inl (cI, 6, .inl q_people)), (q1, .inl (cI, 6, .inl q_area)), (q4, .inl (cI, 10, .inl q_from)), (q5, .inl (cI, 10, .inl q_to)), (q6, .inl (cI, 10, .inl q_width)), (q7, .inl (cI, 10, .inl q_length)), (q8, .inl (cI, 10, .inl q_shut))]) post) (by decide) (Nat.le_of_ble_eq_true rfl) ?_
  intro p e s m below meth c A C hnm hP hD hS ls hl
  have C : lw_Cx D cI cZ p s m _ meth c cX2_crowd 2 (some .float) RX2 A := C
  obtain ⟨hx, hb, hr, hml, hown, hts, hlocks, hN, hK, hA⟩ := id C
  have hl : lv_has ls 2 [(0, .ref qh), (1, .int a1)] := hl
  obtain ⟨H, hH⟩ : ∃ H, H = s.heap := ⟨_, rfl⟩
  rw [← hH] at hP
  have hS : va_S A s.heap H [] := by rw [hH]; exact hS
  suffices hgoal : W p l e ({ frames := 0, cells := 0, slots := 0, locals := 0 } : Room) s m #[.ref qh, .int a1] below meth c H [] 0 0 (MQ below (lw_Qf D cI cZ A (fun u : Unit => [(qh, .inr (2, [.ref q0, .ref q1, .int q_safeRooms, .int q_passages, .ref q4, .ref q5, .ref q6, .ref q7, .ref q8])), (q0, .inl (cI, 6, .inl q_people)), (q1, .inl (cI, 6, .inl q_area)), (q4, .inl (cI, 10, .inl q_from)), (q5, .inl (cI, 10, .inl q_to)), (q6, .inl (cI, 10, .inl q_width)), (q7, .inl (cI, 10, .inl q_length)), (q8, .inl (cI, 10, .inl q_shut))]) post) #[.ref qh, .int a1] s 0 0 A) (F0 m 0 ls []) by rw [hH] at hgoal; exact hgoal
  obtain ⟨locs, hlo⟩ : ∃ locs : List Loc, locs = [] := ⟨_, rfl⟩
  rw [← hlo] at hS ⊢
  rw [vc_X2_crowd] at hv
  refine lv_aload_n hx hb dX2_crowd_0 rfl (lv_at hl 0 rfl) ?_
  refine va_get (D := D) (ci := 2) (v := .ref q1) (C := RX2) (T := TX2) (N := 9) hx hb hts iX2 hown hK hP 0 rfl rfl 1 (by decide) (hts _ kw_101) (fun _ h9 => h9) rfl dX2_crowd_1 ?_
  refine lv_iload_n hx hb dX2_crowd_4 rfl (lv_at hl 1 rfl) ?_
  obtain ⟨hi_1, hv⟩ := hv
  refine va_iald hx hb hK hP 2 0 rfl rfl hi_1 dX2_crowd_5 ?_
  refine lv_if_gt (tgt := 11) hx hb dX2_crowd_6 (by decide) (fun c9 => ?_) (fun c9 => ?_)
  · have hv := hv.1 c9
    refine lv_aload_n hx hb dX2_crowd_11 rfl (lv_at hl 0 rfl) ?_
    refine va_get (D := D) (ci := 2) (v := .ref q0) (C := RX2) (T := TX2) (N := 9) hx hb hts iX2 hown hK hP 0 rfl rfl 0 (by decide) (hts _ kw_97) (fun _ h9 => h9) rfl dX2_crowd_12 ?_
    refine lv_iload_n hx hb dX2_crowd_15 rfl (lv_at hl 1 rfl) ?_
    obtain ⟨hi_2, hv⟩ := hv
    refine va_iald hx hb hK hP 1 0 rfl rfl hi_2 dX2_crowd_16 ?_
    refine lv_i2f hx hb dX2_crowd_17 ?_
    refine lv_aload_n hx hb dX2_crowd_18 rfl (lv_at hl 0 rfl) ?_
    refine va_get (D := D) (ci := 2) (v := .ref q1) (C := RX2) (T := TX2) (N := 9) hx hb hts iX2 hown hK hP 0 rfl rfl 1 (by decide) (hts _ kw_101) (fun _ h9 => h9) rfl dX2_crowd_19 ?_
    refine lv_iload_n hx hb dX2_crowd_22 rfl (lv_at hl 1 rfl) ?_
    obtain ⟨hi_3, hv⟩ := hv
    refine va_iald hx hb hK hP 2 0 rfl rfl hi_3 dX2_crowd_23 ?_
    refine lv_i2f hx hb dX2_crowd_24 ?_
    obtain ⟨hn_4, hv⟩ := hv
    refine lv_fdiv hx hb dX2_crowd_25 hn_4 ?_
    exact lw_fret C () hv hP hD hS dX2_crowd_26
  · have hv := hv.2 c9
    refine lv_fconst0 hx hb dX2_crowd_9 ?_
    exact lw_fret C () hv hP hD hS dX2_crowd_10

def vc_X2_pace (a1 : Int32) (q_people : (Nat → Int32)) (q_area : (Nat → Int32)) (post : UInt32 → Unit → Prop) : Prop :=
  (vc_X2_crowd a1 q_people q_area (fun (r_2 : UInt32) (u_1 : Unit) => (vf_n32 (FP.fmul (1048576000 : UInt32) r_2) ∧ (∀ x2_4 : UInt32, x2_4 = (FP.fmul (1048576000 : UInt32) r_2) → (vf_n32 (FP.fsub (1068205343 : UInt32) x2_4) ∧ (∀ x3_6 : UInt32, x3_6 = (FP.fsub (1068205343 : UInt32) x2_4) → ((0 ≤ (Op.cmpValue (FP.fcmp x3_6 (1036831949 : UInt32)) CmpOp.g) → post x3_6 ()) ∧ (¬ 0 ≤ (Op.cmpValue (FP.fcmp x3_6 (1036831949 : UInt32)) CmpOp.g) → post (1036831949 : UInt32) ()))))))))

set_option maxHeartbeats 4000000 in
set_option maxRecDepth 100000 in
theorem m_X2_pace (l : Launch) (D : va_G) (cI cZ : ClassId) (qh q0 q1 q4 q5 q6 q7 q8 : Nat) (a1 : Int32) (q_people : (Nat → Int32)) (q_area : (Nat → Int32)) (q_safeRooms : Int32) (q_passages : Int32) (q_from : (Nat → Int32)) (q_to : (Nat → Int32)) (q_width : (Nat → Int32)) (q_length : (Nat → Int32)) (q_shut : (Nat → Int32)) (sz : Nat) {post : UInt32 → Unit → Prop} (hv : vc_X2_pace a1 q_people q_area post) :
    Met l yX2_pace (Cond.code yX2_pace cX2_pace 4 (some .float) :: lw_good) ({ frames := 1, cells := 0, slots := 0, locals := 21 } : Room) (va_Pc [.ref qh, .int a1] (lw_B D cI cZ [(qh, .inr (2, [.ref q0, .ref q1, .int q_safeRooms, .int q_passages, .ref q4, .ref q5, .ref q6, .ref q7, .ref q8])), (q0, .inl (cI, 6, .inl q_people)), (q1, .inl (cI, 6, .inl q_area)), (q4, .inl (cI, 10, .inl q_from)), (q5, .inl (cI, 10, .inl q_to)), (q6, .inl (cI, 10, .inl q_width)), (q7, .inl (cI, 10, .inl q_length)), (q8, .inl (cI, 10, .inl q_shut))] sz)) (lw_Qf D cI cZ (va_A [(qh, .inr (2, [.ref q0, .ref q1, .int q_safeRooms, .int q_passages, .ref q4, .ref q5, .ref q6, .ref q7, .ref q8])), (q0, .inl (cI, 6, .inl q_people)), (q1, .inl (cI, 6, .inl q_area)), (q4, .inl (cI, 10, .inl q_from)), (q5, .inl (cI, 10, .inl q_to)), (q6, .inl (cI, 10, .inl q_width)), (q7, .inl (cI, 10, .inl q_length)), (q8, .inl (cI, 10, .inl q_shut))] sz) (fun u : Unit => [(qh, .inr (2, [.ref q0, .ref q1, .int q_safeRooms, .int q_passages, .ref q4, .ref q5, .ref q6, .ref q7, .ref q8])), (q0, .inl (cI, 6, .inl q_people)), (q1, .inl (cI, 6, .inl q_area)), (q4, .inl (cI, 10, .inl q_from)), (q5, .inl (cI, 10, .inl q_to)), (q6, .inl (cI, 10, .inl q_width)), (q7, .inl (cI, 10, .inl q_length)), (q8, .inl (cI, 10, .inl q_shut))]) post) 0 0 (va_A [(qh, .inr (2, [.ref q0, .ref q1, .int q_safeRooms, .int q_passages, .ref q4, .ref q5, .ref q6, .ref q7, .ref q8])), (q0, .inl (cI, 6, .inl q_people)), (q1, .inl (cI, 6, .inl q_area)), (q4, .inl (cI, 10, .inl q_from)), (q5, .inl (cI, 10, .inl q_to)), (q6, .inl (cI, 10, .inl q_width)), (q7, .inl (cI, 10, .inl q_length)), (q8, .inl (cI, 10, .inl q_shut))] sz) := by
  refine lw_met (Q := fun A => lw_Qf D cI cZ A (fun u : Unit => [(qh, .inr (2, [.ref q0, .ref q1, .int q_safeRooms, .int q_passages, .ref q4, .ref q5, .ref q6, .ref q7, .ref q8])), (q0, .inl (cI, 6, .inl q_people)), (q1, .inl (cI, 6, .inl q_area)), (q4, .inl (cI, 10, .inl q_from)), (q5, .inl (cI, 10, .inl q_to)), (q6, .inl (cI, 10, .inl q_width)), (q7, .inl (cI, 10, .inl q_length)), (q8, .inl (cI, 10, .inl q_shut))]) post) (by decide) (Nat.le_of_ble_eq_true rfl) ?_
  intro p e s m below meth c A C hnm hP hD hS ls hl
  have C : lw_Cx D cI cZ p s m _ meth c cX2_pace 4 (some .float) RX2 A := C
  obtain ⟨hx, hb, hr, hml, hown, hts, hlocks, hN, hK, hA⟩ := id C
  have hl : lv_has ls 4 [(0, .ref qh), (1, .int a1)] := hl
  obtain ⟨H, hH⟩ : ∃ H, H = s.heap := ⟨_, rfl⟩
  rw [← hH] at hP
  have hS : va_S A s.heap H [] := by rw [hH]; exact hS
  suffices hgoal : W p l e ({ frames := 1, cells := 0, slots := 0, locals := 21 } : Room) s m #[.ref qh, .int a1] below meth c H [] 0 0 (MQ below (lw_Qf D cI cZ A (fun u : Unit => [(qh, .inr (2, [.ref q0, .ref q1, .int q_safeRooms, .int q_passages, .ref q4, .ref q5, .ref q6, .ref q7, .ref q8])), (q0, .inl (cI, 6, .inl q_people)), (q1, .inl (cI, 6, .inl q_area)), (q4, .inl (cI, 10, .inl q_from)), (q5, .inl (cI, 10, .inl q_to)), (q6, .inl (cI, 10, .inl q_width)), (q7, .inl (cI, 10, .inl q_length)), (q8, .inl (cI, 10, .inl q_shut))]) post) #[.ref qh, .int a1] s 0 0 A) (F0 m 0 ls []) by rw [hH] at hgoal; exact hgoal
  obtain ⟨locs, hlo⟩ : ∃ locs : List Loc, locs = [] := ⟨_, rfl⟩
  rw [← hlo] at hS ⊢
  rw [vc_X2_pace] at hv
  refine lv_ldcf (v := 1048576000) hx hb hown (hts _ kw_368) dX2_pace_0 ?_
  refine lv_aload_n hx hb dX2_pace_2 rfl (lv_at hl 0 rfl) ?_
  refine lv_iload_n hx hb dX2_pace_3 rfl (lv_at hl 1 rfl) ?_
  refine lw_callf (wr := []) C (lw_runV (own := RX2) (n := 1) C hP hD [0, 1, 2, 3, 4, 5, 6, 7] rfl rfl 2 rfl rfl rfl (m_X2_crowd l D cI cZ qh q0 q1 q4 q5 q6 q7 q8 a1 q_people q_area q_safeRooms q_passages q_from q_to q_width q_length q_shut H.size hv) kw_357 kw_369 kw_356 kw_7 kw_69 (by decide +kernel) rfl ⟨rfl, rfl, Nat.le_of_ble_eq_true rfl, Nat.le_of_ble_eq_true rfl, Nat.le_of_ble_eq_true rfl, Nat.le_of_ble_eq_true rfl⟩ hl.1 rfl (Nat.le_of_ble_eq_true rfl) dX2_pace_4) hP hD hS [0, 1, 2, 3, 4, 5, 6, 7] [] rfl rfl rfl (by decide +kernel) (fun r_2 u_1 H locs hv hP hD hS => ?_)
  have hP : va_P D vwCl [(qh, .inr (2, [.ref q0, .ref q1, .int q_safeRooms, .int q_passages, .ref q4, .ref q5, .ref q6, .ref q7, .ref q8])), (q0, .inl (cI, 6, .inl q_people)), (q1, .inl (cI, 6, .inl q_area)), (q4, .inl (cI, 10, .inl q_from)), (q5, .inl (cI, 10, .inl q_to)), (q6, .inl (cI, 10, .inl q_width)), (q7, .inl (cI, 10, .inl q_length)), (q8, .inl (cI, 10, .inl q_shut))] H := hP
  have hD : va_D A [(qh, .inr (2, [.ref q0, .ref q1, .int q_safeRooms, .int q_passages, .ref q4, .ref q5, .ref q6, .ref q7, .ref q8])), (q0, .inl (cI, 6, .inl q_people)), (q1, .inl (cI, 6, .inl q_area)), (q4, .inl (cI, 10, .inl q_from)), (q5, .inl (cI, 10, .inl q_to)), (q6, .inl (cI, 10, .inl q_width)), (q7, .inl (cI, 10, .inl q_length)), (q8, .inl (cI, 10, .inl q_shut))] := hD
  obtain ⟨hn_3, hv⟩ := hv
  refine lv_fmul hx hb dX2_pace_7 hn_3 ?_
  refine lv_topf (fun x2_4 ex2_4 => ?_)
  have hv := hv x2_4 ex2_4
  refine lv_fstore_n (lv' := [(2, .float x2_4), (0, .ref qh), (1, .int a1)]) hx hb dX2_pace_8 rfl hl (by decide) rfl (fun ls hl => ?_)
  refine lv_ldcf (v := 1068205343) hx hb hown (hts _ kw_370) dX2_pace_9 ?_
  refine lv_fload_n hx hb dX2_pace_11 rfl (lv_at hl 0 rfl) ?_
  obtain ⟨hn_5, hv⟩ := hv
  refine lv_fsub hx hb dX2_pace_12 hn_5 ?_
  refine lv_topf (fun x3_6 ex3_6 => ?_)
  have hv := hv x3_6 ex3_6
  refine lv_fstore_n (lv' := [(3, .float x3_6), (2, .float x2_4), (0, .ref qh), (1, .int a1)]) hx hb dX2_pace_13 rfl hl (by decide) rfl (fun ls hl => ?_)
  refine lv_fload_n hx hb dX2_pace_14 rfl (lv_at hl 0 rfl) ?_
  refine lv_ldcf (v := 1036831949) hx hb hown (hts _ kw_371) dX2_pace_15 ?_
  refine lv_fcmp hx hb dX2_pace_17 ?_
  refine lv_if_ge (tgt := 26) hx hb dX2_pace_18 (by decide) (fun c9 => ?_) (fun c9 => ?_)
  · have hv := hv.1 c9
    refine lv_fload_n hx hb dX2_pace_26 rfl (lv_at hl 0 rfl) ?_
    exact lw_fret C () hv hP hD hS dX2_pace_27
  · have hv := hv.2 c9
    refine lv_ldcf (v := 1036831949) hx hb hown (hts _ kw_371) dX2_pace_21 ?_
    refine lv_goto (tgt := 27) hx hb dX2_pace_23 (by decide) ?_
    exact lw_fret C () hv hP hD hS dX2_pace_27
