/-! SAFE, TOLD, THE START -/
theorem op_safe : lw_Op_safe lw_Inv := by
  intro a1 a2 x_imagesKept q_people q_area q_safeRooms q_passages q_from q_to q_width q_length q_shut qa_people qa_area qa_safeRooms qa_passages qa_from qa_to qa_width qa_length qa_shut qb_people qb_area qb_safeRooms qb_passages qb_from qb_to qb_width qb_length qb_shut d_signs d_size f_lanes f_from f_to f_width f_length f_shut f_safeRooms f_people f_led f_notLed f_entering f_latest f_step f_wayEntry f_wayAhead f_waySteps f_wayWidth g_lanes g_from g_to g_width g_length g_shut g_safeRooms g_people g_led g_notLed g_entering g_latest g_step g_wayEntry g_wayAhead g_waySteps g_wayWidth t_here t_arriving t_distance t_firstPassage m_state m_images m_isKept m_pad m_said m_goes m_waits m_still m_cameFrom m_cameBy m_wave m_waved m_goal m_goalBy m_until m_here m_coming m_far hI
  obtain ⟨hQ, hG, hD, hF, hH⟩ := hI
  exact core_safe (a1 := a1) (a2 := a2) hQ (post := fun _ u w => lw_Inv x_imagesKept q_people q_area u q_passages q_from q_to q_width q_length q_shut qa_people qa_area qa_safeRooms qa_passages qa_from qa_to qa_width qa_length qa_shut qb_people qb_area qb_safeRooms qb_passages qb_from qb_to qb_width qb_length qb_shut d_signs d_size f_lanes f_from f_to f_width f_length f_shut f_safeRooms f_people f_led f_notLed f_entering f_latest f_step f_wayEntry f_wayAhead f_waySteps f_wayWidth g_lanes g_from g_to g_width g_length g_shut g_safeRooms g_people g_led g_notLed g_entering g_latest g_step g_wayEntry g_wayAhead g_waySteps g_wayWidth t_here t_arriving t_distance t_firstPassage w m_images m_isKept m_pad m_said m_goes m_waits m_still m_cameFrom m_cameBy m_wave m_waved m_goal m_goalBy m_until m_here m_coming m_far) (fun _ _ _ hn => ⟨hn, hG, hD, hF, hH⟩)
theorem op_told : lw_Op_told lw_Inv := by
  intro a1 a2 x_imagesKept q_people q_area q_safeRooms q_passages q_from q_to q_width q_length q_shut qa_people qa_area qa_safeRooms qa_passages qa_from qa_to qa_width qa_length qa_shut qb_people qb_area qb_safeRooms qb_passages qb_from qb_to qb_width qb_length qb_shut d_signs d_size f_lanes f_from f_to f_width f_length f_shut f_safeRooms f_people f_led f_notLed f_entering f_latest f_step f_wayEntry f_wayAhead f_waySteps f_wayWidth g_lanes g_from g_to g_width g_length g_shut g_safeRooms g_people g_led g_notLed g_entering g_latest g_step g_wayEntry g_wayAhead g_waySteps g_wayWidth t_here t_arriving t_distance t_firstPassage m_state m_images m_isKept m_pad m_said m_goes m_waits m_still m_cameFrom m_cameBy m_wave m_waved m_goal m_goalBy m_until m_here m_coming m_far hI
  obtain ⟨hQ, hG, hD, hF, hH⟩ := hI
  exact core_told hQ ⟨hQ, hG, hD, hF, hH⟩
theorem ini_k : ∀ k, k < 7 → ((6 : Int32) ≤ nI k ↔ 6 ≤ k) ∧ (k < 6 → (nI k).toNatClampNeg = k ∧ vp_in (nI k) 16 ∧ (6 + nI k).toNatClampNeg = 6 + k ∧ vp_in (6 + nI k) 69 ∧ nI k + 1 = nI (k + 1) ∧ (nI k).toInt = k) := by
  simp only [vp_in_iff]
  decide
theorem ini_f {post : ((Nat → Int32) × (Nat → Int32) × (Nat → Int32) × (Nat → Int32) × (Nat → Int32)) → Prop} (hp : ∀ F G Wd L Sh : Nat → Int32, FI (tz F) (tz G) (tz L) (tz Wd) (tz Sh) → post (F, G, Wd, L, Sh)) : vc_X0_init post := by
  have key : ∀ (d k : Nat) (F G Wd L Sh : Nat → Int32), k + d = 6 → (∀ j, j < k → F j = nI j ∧ G j = nI j ∧ L j = 1 ∧ Wd j = 180 ∧ Sh j = 1000) → vc_X0_init_L129 (fun k_f_from k_f_to k_f_width k_f_length k_f_shut => post (k_f_from, k_f_to, k_f_width, k_f_length, k_f_shut)) (d + 1) (nI k) F G Wd L Sh := by
    intro d
    induction d with
    | zero =>
      intro k F G Wd L Sh hk h
      rw [vc_X0_init_L129]
      have : k = 6 := by omega
      subst this
      refine ⟨fun _ => hp _ _ _ _ _ (fun j hj => ?_), fun c => absurd ((ini_k 6 (by omega)).1.mpr (by omega)) c⟩
      obtain ⟨a, b, c, e, f⟩ := h j hj
      have w := ((ini_k j (by omega)).2 hj).2.2.2.2.2
      unfold tz
      rw [a, b, c, e, f]
      exact ⟨w, w, rfl, rfl, rfl⟩
    | succ d ih =>
      intro k F G Wd L Sh hk h
      have w := ini_k k (by omega)
      obtain ⟨w1, w2, w3, w4, w5, w6⟩ := w.2 (by omega)
      rw [vc_X0_init_L129, w1]
      refine ⟨fun c => absurd (w.1.mp c) (by omega), fun _ => ⟨w2, w2, w2, w2, w2, fun x hx => ?_⟩⟩
      rw [hx, w5]
      refine ih (k + 1) _ _ _ _ _ (by omega) (fun j hj => ?_)
      by_cases q : j = k
      · subst q; rw [pk_us, pk_us, pk_us, pk_us, pk_us]; exact ⟨rfl, rfl, rfl, rfl, rfl⟩
      · rw [pk_un q, pk_un q, pk_un q, pk_un q, pk_un q]; exact h j (by omega)
  rw [vc_X0_init]
  exact ⟨7, key 6 0 _ _ _ _ _ (by omega) (fun j hj => absurd hj (Nat.not_lt_zero _))⟩
theorem ini_m {post : (Nat → Int32) → Prop} (hp : ∀ w : Nat → Int32, (∀ j, w j = if 6 ≤ j ∧ j < 12 then 10 else 0) → post w) : vc_X5_init post := by
  have key : ∀ (d k : Nat) (w : Nat → Int32), k + d = 6 → (∀ j, w j = if 6 ≤ j ∧ j < 6 + k then 10 else 0) → vc_X5_init_L115 (fun k_m_state => post k_m_state) (d + 1) (nI k) w := by
    intro d
    induction d with
    | zero =>
      intro k w hk h
      rw [vc_X5_init_L115]
      have : k = 6 := by omega
      subst this
      exact ⟨fun _ => hp w h, fun c => absurd ((ini_k 6 (by omega)).1.mpr (by omega)) c⟩
    | succ d ih =>
      intro k w hk h
      have v := ini_k k (by omega)
      obtain ⟨w1, w2, w3, w4, w5, w6⟩ := v.2 (by omega)
      rw [vc_X5_init_L115, w3]
      refine ⟨fun c => absurd (v.1.mp c) (by omega), fun _ => ⟨w4, fun x hx => ?_⟩⟩
      rw [hx, w5]
      refine ih (k + 1) _ (by omega) (fun j => ?_)
      by_cases q : j = 6 + k
      · subst q; rw [pk_us, if_pos (by omega)]
      · rw [pk_un q, h j]
        by_cases z : 6 ≤ j ∧ j < 6 + k
        · rw [if_pos z, if_pos (by omega)]
        · rw [if_neg z, if_neg (by omega)]
  rw [vc_X5_init]
  exact ⟨7, key 6 0 _ (by omega) (fun j => by rw [if_neg (by omega)])⟩
theorem PI_ini {w : Nat → Int32} (hw : ∀ j, w j = if 6 ≤ j ∧ j < 12 then 10 else 0) : PI (tz (fun _ => 0)) (tz (lw_fil 6 10 (fun _ => 0))) (0 : Int32).toInt (0 : Int32).toInt (tz (fun _ => 0)) (tz (fun _ => 0)) (tz (fun _ => 0)) (tz (fun _ => 0)) (tz (fun _ => 0)) (tz w) := by
  have z0 : ∀ j, ¬ (6 ≤ j ∧ j < 12) → tz w j = 0 := fun j hj => by
    unfold tz; rw [hw j, if_neg hj]; rfl
  have z1 : ∀ j, 6 ≤ j ∧ j < 12 → tz w j = 10 := fun j hj => by
    unfold tz; rw [hw j, if_pos hj]; rfl
  have t0 : ∀ j, tz (fun _ => (0 : Int32)) j = 0 := fun j => rfl
  have e0 : (0 : Int32).toInt = 0 := rfl
  refine ⟨⟨⟨fun r hr => ?_, by rw [z0 68 (by omega)]; omega, by rw [z0 68 (by omega)]; omega, fun p hp => ?_⟩, fun p hp => ?_⟩, ⟨fun r hr => ?_, ?_, ?_, fun p hp => ?_⟩, fun r hr => ?_⟩
  · rw [z0 r (by omega), z1 (6 + r) (by omega), z0 (12 + r) (by omega)]; omega
  · rw [z0 68 (by omega)] at hp; omega
  · rw [z0 68 (by omega)] at hp; omega
  · rw [t0, z0 r (by omega)]
  · unfold smS
    rw [e0, z0 12 (by omega), z0 13 (by omega), z0 14 (by omega), z0 15 (by omega), z0 16 (by omega), z0 17 (by omega)]; omega
  · rw [e0, z0 68 (by omega)]
  · rw [t0, z0 (18 + p) (by omega), z0 (28 + p) (by omega), z0 (38 + p) (by omega), z0 (48 + p) (by omega), z0 (58 + p) (by omega)]; omega
  · rw [z1 (6 + r) (by omega)]
    show (lw_fil 6 10 (fun _ => (0 : Int32)) r).toInt = 10
    unfold lw_fil
    rw [if_pos hr]; rfl
theorem init_ok : lw_Init lw_Inv := by
  rw [lw_Init, vc_X4_init]
  refine ini_f (fun F G Wd L Sh h1 => ini_f (fun F2 G2 Wd2 L2 Sh2 h2 => ini_m (fun w hw => ?_)))
  have k0 : tz (fun _ => (0 : Int32)) 0 = 0 := rfl
  have k1 : tz (fun _ => (0 : Int32)) 1 = 0 := rfl
  have e0 : (0 : Int32).toInt = 0 := rfl
  refine ⟨PI_ini hw, ⟨Or.inl k0, Or.inl k1, by rw [k0, k1, e0]; rfl, fun z => absurd (k0.symm.trans z) (by decide), fun z => absurd (k1.symm.trans z) (by decide)⟩, ⟨rfl, by rw [e0]; omega, by rw [e0]; omega, fun i hi => by rw [e0] at hi; omega⟩, h1, h2⟩
