/-! THE LAW'S INVARIANT, AND THE CALLS -/
theorem tz_az (f : Nat → Int32) : az (tz f) = f := (az_tz f).symm
theorem iz_tI (x : Int32) : iz x.toInt = x := (iz_tz x).symm
def lw_Inv (x_imagesKept : Int32) (q_people : (Nat → Int32)) (q_area : (Nat → Int32)) (q_safeRooms : Int32) (q_passages : Int32) (q_from : (Nat → Int32)) (q_to : (Nat → Int32)) (q_width : (Nat → Int32)) (q_length : (Nat → Int32)) (q_shut : (Nat → Int32)) (qa_people : (Nat → Int32)) (qa_area : (Nat → Int32)) (qa_safeRooms : Int32) (qa_passages : Int32) (qa_from : (Nat → Int32)) (qa_to : (Nat → Int32)) (qa_width : (Nat → Int32)) (qa_length : (Nat → Int32)) (qa_shut : (Nat → Int32)) (qb_people : (Nat → Int32)) (qb_area : (Nat → Int32)) (qb_safeRooms : Int32) (qb_passages : Int32) (qb_from : (Nat → Int32)) (qb_to : (Nat → Int32)) (qb_width : (Nat → Int32)) (qb_length : (Nat → Int32)) (qb_shut : (Nat → Int32)) (d_signs : (Nat → Int32)) (d_size : Int32) (f_lanes : Int32) (f_from : (Nat → Int32)) (f_to : (Nat → Int32)) (f_width : (Nat → Int32)) (f_length : (Nat → Int32)) (f_shut : (Nat → Int32)) (f_safeRooms : Int32) (f_people : Int32) (f_led : Int32) (f_notLed : (Nat → Int32)) (f_entering : (Nat → Int32)) (f_latest : (Nat → Int32)) (f_step : (Nat → Int32)) (f_wayEntry : (Nat → Int32)) (f_wayAhead : (Nat → Int32)) (f_waySteps : Int32) (f_wayWidth : Int32) (g_lanes : Int32) (g_from : (Nat → Int32)) (g_to : (Nat → Int32)) (g_width : (Nat → Int32)) (g_length : (Nat → Int32)) (g_shut : (Nat → Int32)) (g_safeRooms : Int32) (g_people : Int32) (g_led : Int32) (g_notLed : (Nat → Int32)) (g_entering : (Nat → Int32)) (g_latest : (Nat → Int32)) (g_step : (Nat → Int32)) (g_wayEntry : (Nat → Int32)) (g_wayAhead : (Nat → Int32)) (g_waySteps : Int32) (g_wayWidth : Int32) (t_here : (Nat → Int32)) (t_arriving : (Nat → Int32)) (t_distance : (Nat → Int32)) (t_firstPassage : (Nat → Int32)) (m_state : (Nat → Int32)) (m_images : (Nat → Int32)) (m_isKept : (Nat → Int32)) (m_pad : (Nat → Int32)) (m_said : Int32) (m_goes : (Nat → Int32)) (m_waits : (Nat → Int32)) (m_still : (Nat → Int32)) (m_cameFrom : (Nat → Int32)) (m_cameBy : (Nat → Int32)) (m_wave : (Nat → Int32)) (m_waved : Int32) (m_goal : Int32) (m_goalBy : Int32) (m_until : Int32) (m_here : (Nat → Int32)) (m_coming : (Nat → Int32)) (m_far : (Nat → Int32)) : Prop :=
  PI (tz q_people) (tz q_area) q_safeRooms.toInt q_passages.toInt (tz q_from) (tz q_to) (tz q_width) (tz q_length) (tz q_shut) (tz m_state) ∧ IG x_imagesKept.toInt (tz qa_people) (tz qa_area) qa_safeRooms.toInt qa_passages.toInt (tz qa_from) (tz qa_to) (tz qa_width) (tz qa_length) (tz qa_shut) (tz qb_people) (tz qb_area) qb_safeRooms.toInt qb_passages.toInt (tz qb_from) (tz qb_to) (tz qb_width) (tz qb_length) (tz qb_shut) (tz m_images) (tz m_isKept) ∧ PD (tz d_signs) d_size.toInt (tz m_pad) m_said.toInt ∧ FI (tz f_from) (tz f_to) (tz f_length) (tz f_width) (tz f_shut) ∧ FI (tz g_from) (tz g_to) (tz g_length) (tz g_width) (tz g_shut)
theorem op_room : lw_Op_room lw_Inv := by
  intro a1 a2 a3 x_imagesKept q_people q_area q_safeRooms q_passages q_from q_to q_width q_length q_shut qa_people qa_area qa_safeRooms qa_passages qa_from qa_to qa_width qa_length qa_shut qb_people qb_area qb_safeRooms qb_passages qb_from qb_to qb_width qb_length qb_shut d_signs d_size f_lanes f_from f_to f_width f_length f_shut f_safeRooms f_people f_led f_notLed f_entering f_latest f_step f_wayEntry f_wayAhead f_waySteps f_wayWidth g_lanes g_from g_to g_width g_length g_shut g_safeRooms g_people g_led g_notLed g_entering g_latest g_step g_wayEntry g_wayAhead g_waySteps g_wayWidth t_here t_arriving t_distance t_firstPassage m_state m_images m_isKept m_pad m_said m_goes m_waits m_still m_cameFrom m_cameBy m_wave m_waved m_goal m_goalBy m_until m_here m_coming m_far hI
  obtain ⟨hQ, hG, hD, hF, hH⟩ := hI
  obtain ⟨ρ, U, W, h4, h5, hn⟩ := core_room hQ (sm_tz a1) (sm_tz a2) (sm_tz a3)
  refine lift_X4_room (iz_tz a1) (iz_tz a2) (iz_tz a3) (az_tz q_people) (az_tz q_area) h4 (fun r u x y hu ex ey => ?_)
  obtain ⟨er, eu⟩ := hu
  subst er eu ex ey
  refine lift_X5_room (iz_tz a1) (iz_tz a2) (iz_tz a3) (az_tz m_state) h5 (fun r2 w x y hw ex ey => ?_)
  obtain ⟨er, ew⟩ := hw
  subst er ew ex ey
  have hn := PI_az hn
  try simp only [tz_az, iz_tI] at hn
  exact ⟨rfl, hn, hG, hD, hF, hH⟩
theorem op_passage : lw_Op_passage lw_Inv := by
  intro a1 a2 a3 a4 x_imagesKept q_people q_area q_safeRooms q_passages q_from q_to q_width q_length q_shut qa_people qa_area qa_safeRooms qa_passages qa_from qa_to qa_width qa_length qa_shut qb_people qb_area qb_safeRooms qb_passages qb_from qb_to qb_width qb_length qb_shut d_signs d_size f_lanes f_from f_to f_width f_length f_shut f_safeRooms f_people f_led f_notLed f_entering f_latest f_step f_wayEntry f_wayAhead f_waySteps f_wayWidth g_lanes g_from g_to g_width g_length g_shut g_safeRooms g_people g_led g_notLed g_entering g_latest g_step g_wayEntry g_wayAhead g_waySteps g_wayWidth t_here t_arriving t_distance t_firstPassage m_state m_images m_isKept m_pad m_said m_goes m_waits m_still m_cameFrom m_cameBy m_wave m_waved m_goal m_goalBy m_until m_here m_coming m_far hI
  obtain ⟨hQ, hG, hD, hF, hH⟩ := hI
  obtain ⟨ρ, U, W, h4, h5, hn⟩ := core_passage hQ (sm_tz a1) (sm_tz a2) (sm_tz a3) (sm_tz a4)
  refine lift_X4_passage (iz_tz a1) (iz_tz a2) (iz_tz a3) (iz_tz a4) (iz_tz q_passages) (az_tz q_from) (az_tz q_to) (az_tz q_width) (az_tz q_length) (az_tz q_shut) h4 (fun r u x y hu ex ey => ?_)
  obtain ⟨er, eu⟩ := hu
  subst er eu ex ey
  refine lift_X5_passage (iz_tz a1) (iz_tz a2) (iz_tz a3) (iz_tz a4) (az_tz m_state) h5 (fun r2 w x y hw ex ey => ?_)
  obtain ⟨er, ew⟩ := hw
  subst er ew ex ey
  have hn := PI_az hn
  try simp only [tz_az, iz_tI] at hn
  exact ⟨rfl, hn, hG, hD, hF, hH⟩
theorem op_widen : lw_Op_widen lw_Inv := by
  intro a1 a2 x_imagesKept q_people q_area q_safeRooms q_passages q_from q_to q_width q_length q_shut qa_people qa_area qa_safeRooms qa_passages qa_from qa_to qa_width qa_length qa_shut qb_people qb_area qb_safeRooms qb_passages qb_from qb_to qb_width qb_length qb_shut d_signs d_size f_lanes f_from f_to f_width f_length f_shut f_safeRooms f_people f_led f_notLed f_entering f_latest f_step f_wayEntry f_wayAhead f_waySteps f_wayWidth g_lanes g_from g_to g_width g_length g_shut g_safeRooms g_people g_led g_notLed g_entering g_latest g_step g_wayEntry g_wayAhead g_waySteps g_wayWidth t_here t_arriving t_distance t_firstPassage m_state m_images m_isKept m_pad m_said m_goes m_waits m_still m_cameFrom m_cameBy m_wave m_waved m_goal m_goalBy m_until m_here m_coming m_far hI
  obtain ⟨hQ, hG, hD, hF, hH⟩ := hI
  obtain ⟨ρ, U, W, h4, h5, hn⟩ := core_widen hQ (sm_tz a1) (sm_tz a2)
  refine lift_X4_widen (iz_tz a1) (iz_tz a2) (iz_tz q_passages) (az_tz q_width) h4 (fun r u x y hu ex ey => ?_)
  obtain ⟨er, eu⟩ := hu
  subst er eu ex ey
  refine lift_X5_widen (iz_tz a1) (iz_tz a2) (az_tz m_state) h5 (fun r2 w x y hw ex ey => ?_)
  obtain ⟨er, ew⟩ := hw
  subst er ew ex ey
  have hn := PI_az hn
  try simp only [tz_az, iz_tI] at hn
  exact ⟨rfl, hn, hG, hD, hF, hH⟩
theorem op_shut : lw_Op_shut lw_Inv := by
  intro a1 a2 x_imagesKept q_people q_area q_safeRooms q_passages q_from q_to q_width q_length q_shut qa_people qa_area qa_safeRooms qa_passages qa_from qa_to qa_width qa_length qa_shut qb_people qb_area qb_safeRooms qb_passages qb_from qb_to qb_width qb_length qb_shut d_signs d_size f_lanes f_from f_to f_width f_length f_shut f_safeRooms f_people f_led f_notLed f_entering f_latest f_step f_wayEntry f_wayAhead f_waySteps f_wayWidth g_lanes g_from g_to g_width g_length g_shut g_safeRooms g_people g_led g_notLed g_entering g_latest g_step g_wayEntry g_wayAhead g_waySteps g_wayWidth t_here t_arriving t_distance t_firstPassage m_state m_images m_isKept m_pad m_said m_goes m_waits m_still m_cameFrom m_cameBy m_wave m_waved m_goal m_goalBy m_until m_here m_coming m_far hI
  obtain ⟨hQ, hG, hD, hF, hH⟩ := hI
  obtain ⟨ρ, U, W, h4, h5, hn⟩ := core_shut hQ (sm_tz a1) (sm_tz a2)
  refine lift_X4_shut (iz_tz a1) (iz_tz a2) (iz_tz q_passages) (az_tz q_shut) h4 (fun r u x y hu ex ey => ?_)
  obtain ⟨er, eu⟩ := hu
  subst er eu ex ey
  refine lift_X5_shut (iz_tz a1) (iz_tz a2) (az_tz m_state) h5 (fun r2 w x y hw ex ey => ?_)
  obtain ⟨er, ew⟩ := hw
  subst er ew ex ey
  have hn := PI_az hn
  try simp only [tz_az, iz_tI] at hn
  exact ⟨rfl, hn, hG, hD, hF, hH⟩
theorem op_say : lw_Op_say lw_Inv := by
  intro a1 x_imagesKept q_people q_area q_safeRooms q_passages q_from q_to q_width q_length q_shut qa_people qa_area qa_safeRooms qa_passages qa_from qa_to qa_width qa_length qa_shut qb_people qb_area qb_safeRooms qb_passages qb_from qb_to qb_width qb_length qb_shut d_signs d_size f_lanes f_from f_to f_width f_length f_shut f_safeRooms f_people f_led f_notLed f_entering f_latest f_step f_wayEntry f_wayAhead f_waySteps f_wayWidth g_lanes g_from g_to g_width g_length g_shut g_safeRooms g_people g_led g_notLed g_entering g_latest g_step g_wayEntry g_wayAhead g_waySteps g_wayWidth t_here t_arriving t_distance t_firstPassage m_state m_images m_isKept m_pad m_said m_goes m_waits m_still m_cameFrom m_cameBy m_wave m_waved m_goal m_goalBy m_until m_here m_coming m_far hI
  obtain ⟨hQ, hG, hD, hF, hH⟩ := hI
  obtain ⟨ρ, U, W, h4, h5, hn⟩ := core_say hD (sm_tz a1)
  refine lift_X4_say (iz_tz a1) (az_tz d_signs) (iz_tz d_size) h4 (fun r u x y hu ex ey => ?_)
  obtain ⟨er, eu⟩ := hu
  subst er eu ex ey
  refine lift_X5_say (iz_tz a1) (az_tz m_pad) (iz_tz m_said) h5 (fun r2 w x y hw ex ey => ?_)
  obtain ⟨er, ew⟩ := hw
  subst er ew ex ey
  have hn := PD_az hn
  try simp only [tz_az, iz_tI] at hn
  exact ⟨rfl, hQ, hG, hn, hF, hH⟩
theorem op_wipe : lw_Op_wipe lw_Inv := by
  intro x_imagesKept q_people q_area q_safeRooms q_passages q_from q_to q_width q_length q_shut qa_people qa_area qa_safeRooms qa_passages qa_from qa_to qa_width qa_length qa_shut qb_people qb_area qb_safeRooms qb_passages qb_from qb_to qb_width qb_length qb_shut d_signs d_size f_lanes f_from f_to f_width f_length f_shut f_safeRooms f_people f_led f_notLed f_entering f_latest f_step f_wayEntry f_wayAhead f_waySteps f_wayWidth g_lanes g_from g_to g_width g_length g_shut g_safeRooms g_people g_led g_notLed g_entering g_latest g_step g_wayEntry g_wayAhead g_waySteps g_wayWidth t_here t_arriving t_distance t_firstPassage m_state m_images m_isKept m_pad m_said m_goes m_waits m_still m_cameFrom m_cameBy m_wave m_waved m_goal m_goalBy m_until m_here m_coming m_far hI
  obtain ⟨hQ, hG, hD, hF, hH⟩ := hI
  obtain ⟨ρ, U, W, h4, h5, hn⟩ := core_wipe hD
  refine lift_X4_wipe (iz_tz d_size) h4 (fun r u x y hu ex ey => ?_)
  obtain ⟨er, eu⟩ := hu
  subst er eu ex ey
  refine lift_X5_wipe (iz_tz m_said) h5 (fun r2 w x y hw ex ey => ?_)
  obtain ⟨er, ew⟩ := hw
  subst er ew ex ey
  have hn := PD_az hn
  try simp only [tz_az, iz_tI] at hn
  exact ⟨rfl, hQ, hG, hn, hF, hH⟩
theorem op_fault : lw_Op_fault lw_Inv := by
  intro x_imagesKept q_people q_area q_safeRooms q_passages q_from q_to q_width q_length q_shut qa_people qa_area qa_safeRooms qa_passages qa_from qa_to qa_width qa_length qa_shut qb_people qb_area qb_safeRooms qb_passages qb_from qb_to qb_width qb_length qb_shut d_signs d_size f_lanes f_from f_to f_width f_length f_shut f_safeRooms f_people f_led f_notLed f_entering f_latest f_step f_wayEntry f_wayAhead f_waySteps f_wayWidth g_lanes g_from g_to g_width g_length g_shut g_safeRooms g_people g_led g_notLed g_entering g_latest g_step g_wayEntry g_wayAhead g_waySteps g_wayWidth t_here t_arriving t_distance t_firstPassage m_state m_images m_isKept m_pad m_said m_goes m_waits m_still m_cameFrom m_cameBy m_wave m_waved m_goal m_goalBy m_until m_here m_coming m_far hI
  obtain ⟨hQ, hG, hD, hF, hH⟩ := hI
  obtain ⟨ρ, h4, h5⟩ := core_fault hD
  refine lift_X4_fault (az_tz d_signs) (iz_tz d_size) h4 (fun r u x y hu ex ey => ?_)
  obtain ⟨er, eu⟩ := hu
  subst er eu ex ey
  refine lift_X5_fault (az_tz m_pad) (iz_tz m_said) h5 (fun r2 w x y hw ex ey => ?_)
  obtain ⟨er, ew⟩ := hw
  subst er ew ex ey
  exact ⟨rfl, hQ, hG, hD, hF, hH⟩
theorem op_read : lw_Op_read lw_Inv := by
  intro x_imagesKept q_people q_area q_safeRooms q_passages q_from q_to q_width q_length q_shut qa_people qa_area qa_safeRooms qa_passages qa_from qa_to qa_width qa_length qa_shut qb_people qb_area qb_safeRooms qb_passages qb_from qb_to qb_width qb_length qb_shut d_signs d_size f_lanes f_from f_to f_width f_length f_shut f_safeRooms f_people f_led f_notLed f_entering f_latest f_step f_wayEntry f_wayAhead f_waySteps f_wayWidth g_lanes g_from g_to g_width g_length g_shut g_safeRooms g_people g_led g_notLed g_entering g_latest g_step g_wayEntry g_wayAhead g_waySteps g_wayWidth t_here t_arriving t_distance t_firstPassage m_state m_images m_isKept m_pad m_said m_goes m_waits m_still m_cameFrom m_cameBy m_wave m_waved m_goal m_goalBy m_until m_here m_coming m_far hI
  obtain ⟨hQ, hG, hD, hF, hH⟩ := hI
  obtain ⟨ρ, U, W, h4, h5, hn, hn2⟩ := core_read hQ hD
  refine lift_X4_read (iz_tz q_passages) (az_tz q_from) (az_tz q_to) (az_tz q_width) (az_tz q_length) (az_tz q_shut) (az_tz d_signs) (iz_tz d_size) h4 (fun r u x y hu ex ey => ?_)
  obtain ⟨er, eu⟩ := hu
  subst er eu ex ey
  refine lift_X5_read (az_tz m_state) (az_tz m_pad) (iz_tz m_said) h5 (fun r2 w x y hw ex ey => ?_)
  obtain ⟨er, ew⟩ := hw
  subst er ew ex ey
  have hn := PI_az hn
  have hn2 := PD_az hn2
  try simp only [tz_az, iz_tI] at hn
  try simp only [tz_az, iz_tI] at hn2
  exact ⟨rfl, hn, hG, hn2, hF, hH⟩
theorem op_of : lw_Op_of lw_Inv := by
  intro a1 a2 x_imagesKept q_people q_area q_safeRooms q_passages q_from q_to q_width q_length q_shut qa_people qa_area qa_safeRooms qa_passages qa_from qa_to qa_width qa_length qa_shut qb_people qb_area qb_safeRooms qb_passages qb_from qb_to qb_width qb_length qb_shut d_signs d_size f_lanes f_from f_to f_width f_length f_shut f_safeRooms f_people f_led f_notLed f_entering f_latest f_step f_wayEntry f_wayAhead f_waySteps f_wayWidth g_lanes g_from g_to g_width g_length g_shut g_safeRooms g_people g_led g_notLed g_entering g_latest g_step g_wayEntry g_wayAhead g_waySteps g_wayWidth t_here t_arriving t_distance t_firstPassage m_state m_images m_isKept m_pad m_said m_goes m_waits m_still m_cameFrom m_cameBy m_wave m_waved m_goal m_goalBy m_until m_here m_coming m_far hI
  obtain ⟨hQ, hG, hD, hF, hH⟩ := hI
  obtain ⟨ρ, h4, h5⟩ := core_of hQ (sm_tz a1) (sm_tz a2)
  refine lift_X4_of (iz_tz a1) (iz_tz a2) (iz_tz q_passages) (az_tz q_from) (az_tz q_to) (az_tz q_width) (az_tz q_length) (az_tz q_shut) h4 (fun r u x y hu ex ey => ?_)
  obtain ⟨er, eu⟩ := hu
  subst er eu ex ey
  refine lift_X5_of (iz_tz a1) (iz_tz a2) (az_tz m_state) h5 (fun r2 w x y hw ex ey => ?_)
  obtain ⟨er, ew⟩ := hw
  subst er ew ex ey
  exact ⟨rfl, hQ, hG, hD, hF, hH⟩
theorem op_image : lw_Op_image lw_Inv := by
  intro a1 x_imagesKept q_people q_area q_safeRooms q_passages q_from q_to q_width q_length q_shut qa_people qa_area qa_safeRooms qa_passages qa_from qa_to qa_width qa_length qa_shut qb_people qb_area qb_safeRooms qb_passages qb_from qb_to qb_width qb_length qb_shut d_signs d_size f_lanes f_from f_to f_width f_length f_shut f_safeRooms f_people f_led f_notLed f_entering f_latest f_step f_wayEntry f_wayAhead f_waySteps f_wayWidth g_lanes g_from g_to g_width g_length g_shut g_safeRooms g_people g_led g_notLed g_entering g_latest g_step g_wayEntry g_wayAhead g_waySteps g_wayWidth t_here t_arriving t_distance t_firstPassage m_state m_images m_isKept m_pad m_said m_goes m_waits m_still m_cameFrom m_cameBy m_wave m_waved m_goal m_goalBy m_until m_here m_coming m_far hI
  obtain ⟨hQ, hG, hD, hF, hH⟩ := hI
  obtain ⟨ρ, U, h4, h5⟩ := core_image hQ hG (sm_tz a1)
  refine lift_X4_image (iz_tz a1) (iz_tz x_imagesKept) (az_tz q_people) (az_tz q_area) (iz_tz q_safeRooms) (iz_tz q_passages) (az_tz q_from) (az_tz q_to) (az_tz q_width) (az_tz q_length) (az_tz q_shut) (az_tz qa_people) (az_tz qa_area) (iz_tz qa_safeRooms) (iz_tz qa_passages) (az_tz qa_from) (az_tz qa_to) (az_tz qa_width) (az_tz qa_length) (az_tz qa_shut) (az_tz qb_people) (az_tz qb_area) (iz_tz qb_safeRooms) (iz_tz qb_passages) (az_tz qb_from) (az_tz qb_to) (az_tz qb_width) (az_tz qb_length) (az_tz qb_shut) h4 (fun r u x y hu ex ey => ?_)
  obtain ⟨er, eu⟩ := hu
  subst er eu ex ey
  refine lift_X5_image (iz_tz a1) (az_tz m_state) (az_tz m_images) (az_tz m_isKept) h5 (fun r2 w x y hw ex ey => ?_)
  obtain ⟨er, hn⟩ := hw
  subst er ex ey
  exact ⟨rfl, hQ, IG_az hn, hD, hF, hH⟩
theorem op_restore : lw_Op_restore lw_Inv := by
  intro a1 x_imagesKept q_people q_area q_safeRooms q_passages q_from q_to q_width q_length q_shut qa_people qa_area qa_safeRooms qa_passages qa_from qa_to qa_width qa_length qa_shut qb_people qb_area qb_safeRooms qb_passages qb_from qb_to qb_width qb_length qb_shut d_signs d_size f_lanes f_from f_to f_width f_length f_shut f_safeRooms f_people f_led f_notLed f_entering f_latest f_step f_wayEntry f_wayAhead f_waySteps f_wayWidth g_lanes g_from g_to g_width g_length g_shut g_safeRooms g_people g_led g_notLed g_entering g_latest g_step g_wayEntry g_wayAhead g_waySteps g_wayWidth t_here t_arriving t_distance t_firstPassage m_state m_images m_isKept m_pad m_said m_goes m_waits m_still m_cameFrom m_cameBy m_wave m_waved m_goal m_goalBy m_until m_here m_coming m_far hI
  obtain ⟨hQ, hG, hD, hF, hH⟩ := hI
  obtain ⟨ρ, U, h4, h5⟩ := core_restore hQ hG (sm_tz a1)
  refine lift_X4_restore (iz_tz a1) (iz_tz x_imagesKept) (az_tz q_people) (az_tz q_area) (iz_tz q_safeRooms) (iz_tz q_passages) (az_tz q_from) (az_tz q_to) (az_tz q_width) (az_tz q_length) (az_tz q_shut) (az_tz qa_people) (az_tz qa_area) (iz_tz qa_safeRooms) (iz_tz qa_passages) (az_tz qa_from) (az_tz qa_to) (az_tz qa_width) (az_tz qa_length) (az_tz qa_shut) (az_tz qb_people) (az_tz qb_area) (iz_tz qb_safeRooms) (iz_tz qb_passages) (az_tz qb_from) (az_tz qb_to) (az_tz qb_width) (az_tz qb_length) (az_tz qb_shut) h4 (fun r u x y hu ex ey => ?_)
  obtain ⟨er, eu⟩ := hu
  subst er eu ex ey
  refine lift_X5_restore (iz_tz a1) (az_tz m_state) (az_tz m_images) (az_tz m_isKept) h5 (fun r2 w x y hw ex ey => ?_)
  obtain ⟨er, hn⟩ := hw
  subst er ex ey
  have hn := PI_az hn
  try simp only [tz_az, iz_tI] at hn
  exact ⟨rfl, hn, hG, hD, hF, hH⟩
theorem op_count : lw_Op_count lw_Inv := by
  intro a1 x_imagesKept q_people q_area q_safeRooms q_passages q_from q_to q_width q_length q_shut qa_people qa_area qa_safeRooms qa_passages qa_from qa_to qa_width qa_length qa_shut qb_people qb_area qb_safeRooms qb_passages qb_from qb_to qb_width qb_length qb_shut d_signs d_size f_lanes f_from f_to f_width f_length f_shut f_safeRooms f_people f_led f_notLed f_entering f_latest f_step f_wayEntry f_wayAhead f_waySteps f_wayWidth g_lanes g_from g_to g_width g_length g_shut g_safeRooms g_people g_led g_notLed g_entering g_latest g_step g_wayEntry g_wayAhead g_waySteps g_wayWidth t_here t_arriving t_distance t_firstPassage m_state m_images m_isKept m_pad m_said m_goes m_waits m_still m_cameFrom m_cameBy m_wave m_waved m_goal m_goalBy m_until m_here m_coming m_far hI
  obtain ⟨hQ, hG, hD, hF, hH⟩ := hI
  obtain ⟨ρ, h4, h5⟩ := core_count hQ hG hD (sm_tz a1)
  refine lift_X4_count (iz_tz a1) (iz_tz x_imagesKept) (az_tz q_people) (iz_tz q_safeRooms) (iz_tz q_passages) (az_tz q_shut) (iz_tz d_size) h4 (fun r u x y hu ex ey => ?_)
  obtain ⟨er, eu⟩ := hu
  subst er eu ex ey
  refine lift_X5_count (iz_tz a1) (az_tz m_state) (az_tz m_isKept) (iz_tz m_said) h5 (fun r2 w x y hw ex ey => ?_)
  obtain ⟨er, ew⟩ := hw
  subst er ew ex ey
  exact ⟨rfl, hQ, hG, hD, hF, hH⟩
def R_out (S : Nat → Int) (a r : Int) : Prop := (¬ (0 ≤ a ∧ a ≤ 60) ∧ r = -2) ∨ (0 ≤ a ∧ a ≤ 60 ∧ ∃ v, MS S a.toNat v ∧ r = sg S 6 - v)
theorem R_out.one {S : Nat → Int} {a r q : Int} (h : R_out S a r) (h' : R_out S a q) : r = q := by
  rcases h with ⟨a1, a2⟩ | ⟨a1, a2, v, a3, a4⟩ <;> rcases h' with ⟨b1, b2⟩ | ⟨b1, b2, w, b3, b4⟩
  · omega
  · exact absurd ⟨b1, b2⟩ a1
  · exact absurd ⟨a1, a2⟩ b1
  · have := MS.one a3 b3; omega
def R_door (S : Nat → Int) (a r : Int) : Prop := (¬ (0 ≤ a ∧ a < S 68) ∧ r = -1) ∨ (0 ≤ a ∧ a < S 68 ∧ ∃ x, LV S x ∧ ((x = -6 ∧ r = -6) ∨ (x ≠ -6 ∧ dR S x a.toNat r)))
theorem R_door.one {S : Nat → Int} {a r q : Int} (h : R_door S a r) (h' : R_door S a q) : r = q := by
  rcases h with ⟨a1, a2⟩ | ⟨a1, a2, x, hx, h⟩ <;> rcases h' with ⟨b1, b2⟩ | ⟨b1, b2, y, hy, h'⟩
  · omega
  · exact absurd ⟨b1, b2⟩ a1
  · exact absurd ⟨a1, a2⟩ b1
  · have e := LV.one hx hy
    subst e
    rcases h with ⟨c1, c2⟩ | ⟨c1, c2⟩ <;> rcases h' with ⟨d1, d2⟩ | ⟨d1, d2⟩
    · omega
    · exact absurd c1 d1
    · exact absurd d1 c1
    · exact dR.one c2 d2
def R_rush (S : Nat → Int) (a r : Int) : Prop := (¬ (0 ≤ a ∧ a ≤ 200) ∧ r = -2) ∨ (0 ≤ a ∧ a ≤ 200 ∧ r = szs S (arz a.toNat (tkz S a.toNat) 6).1)
theorem R_rush.one {S : Nat → Int} {a r q : Int} (h : R_rush S a r) (h' : R_rush S a q) : r = q := by
  rcases h with ⟨a1, a2⟩ | ⟨a1, a2, a3⟩ <;> rcases h' with ⟨b1, b2⟩ | ⟨b1, b2, b3⟩
  · omega
  · exact absurd ⟨b1, b2⟩ a1
  · exact absurd ⟨a1, a2⟩ b1
  · rw [a3, b3]
def R_helps (S : Nat → Int) (r : Int) : Prop := ∃ x, LV S x ∧ r = bs (cH S x) (S 68).toNat
theorem R_helps.one {S : Nat → Int} {r q : Int} (h : R_helps S r) (h' : R_helps S q) : r = q := by
  obtain ⟨x, hx, h⟩ := h
  obtain ⟨y, hy, h'⟩ := h'
  have e := LV.one hx hy
  subst e
  rw [h, h']
def R_needed (S : Nat → Int) (r : Int) : Prop := ∃ x, LV S x ∧ r = if x = -6 then -6 else bs (cN S x) (S 68).toNat
theorem R_needed.one {S : Nat → Int} {r q : Int} (h : R_needed S r) (h' : R_needed S q) : r = q := by
  obtain ⟨x, hx, h⟩ := h
  obtain ⟨y, hy, h'⟩ := h'
  have e := LV.one hx hy
  subst e
  rw [h, h']
theorem op_out : lw_Op_out lw_Inv := by
  intro a1 x_imagesKept q_people q_area q_safeRooms q_passages q_from q_to q_width q_length q_shut qa_people qa_area qa_safeRooms qa_passages qa_from qa_to qa_width qa_length qa_shut qb_people qb_area qb_safeRooms qb_passages qb_from qb_to qb_width qb_length qb_shut d_signs d_size f_lanes f_from f_to f_width f_length f_shut f_safeRooms f_people f_led f_notLed f_entering f_latest f_step f_wayEntry f_wayAhead f_waySteps f_wayWidth g_lanes g_from g_to g_width g_length g_shut g_safeRooms g_people g_led g_notLed g_entering g_latest g_step g_wayEntry g_wayAhead g_waySteps g_wayWidth t_here t_arriving t_distance t_firstPassage m_state m_images m_isKept m_pad m_said m_goes m_waits m_still m_cameFrom m_cameBy m_wave m_waved m_goal m_goalBy m_until m_here m_coming m_far hI
  obtain ⟨hQ, hG, hD, hF, hH⟩ := hI
  have hP := hQ.1.1
  refine lift_X4_out (iz_tz a1) (az_tz q_people) (iz_tz q_safeRooms) (iz_tz q_passages) (az_tz q_from) (az_tz q_to) (az_tz q_width) (az_tz q_length) (az_tz q_shut) (iz_tz f_lanes) (az_tz f_from) (az_tz f_to) (az_tz f_width) (az_tz f_length) (az_tz f_shut) (iz_tz f_safeRooms) (iz_tz f_people) (iz_tz f_led) (az_tz f_notLed) (az_tz f_entering) (az_tz f_latest) (az_tz f_step) (az_tz f_wayEntry) (az_tz f_wayAhead) (iz_tz f_waySteps) (iz_tz f_wayWidth) (post := fun r u => R_out (tz m_state) a1.toInt r ∧ FIt u) (sp_out hP hQ.2.1 hF (sm_tz a1) (fun u z hu => ⟨Or.inl ⟨z, rfl⟩, hu⟩) (fun v u z1 z2 hv hu => ⟨Or.inr ⟨z1, z2, v, hv, rfl⟩, hu⟩)) (fun r u x y hu ex ey => ?_)
  subst ex ey
  refine lift_X5_out (iz_tz a1) (az_tz m_state) (az_tz m_goes) (az_tz m_waits) (az_tz m_still) (az_tz m_cameFrom) (az_tz m_cameBy) (az_tz m_wave) (iz_tz m_waved) (iz_tz m_goal) (iz_tz m_goalBy) (iz_tz m_until) (post := fun r u => R_out (tz m_state) a1.toInt r) (sp5_out hP (sm_tz a1) (fun u z => Or.inl ⟨z, rfl⟩) (fun v u z1 z2 hv => Or.inr ⟨z1, z2, v, hv, rfl⟩)) (fun r2 w x y hw ex ey => ?_)
  subst ex ey
  exact ⟨congrArg iz (R_out.one hu.1 hw), hQ, hG, hD, FI_az hu.2, hH⟩
theorem op_last : lw_Op_last lw_Inv := by
  intro x_imagesKept q_people q_area q_safeRooms q_passages q_from q_to q_width q_length q_shut qa_people qa_area qa_safeRooms qa_passages qa_from qa_to qa_width qa_length qa_shut qb_people qb_area qb_safeRooms qb_passages qb_from qb_to qb_width qb_length qb_shut d_signs d_size f_lanes f_from f_to f_width f_length f_shut f_safeRooms f_people f_led f_notLed f_entering f_latest f_step f_wayEntry f_wayAhead f_waySteps f_wayWidth g_lanes g_from g_to g_width g_length g_shut g_safeRooms g_people g_led g_notLed g_entering g_latest g_step g_wayEntry g_wayAhead g_waySteps g_wayWidth t_here t_arriving t_distance t_firstPassage m_state m_images m_isKept m_pad m_said m_goes m_waits m_still m_cameFrom m_cameBy m_wave m_waved m_goal m_goalBy m_until m_here m_coming m_far hI
  obtain ⟨hQ, hG, hD, hF, hH⟩ := hI
  have hP := hQ.1.1
  refine lift_X4_last (az_tz q_people) (iz_tz q_safeRooms) (iz_tz q_passages) (az_tz q_from) (az_tz q_to) (az_tz q_width) (az_tz q_length) (az_tz q_shut) (iz_tz f_lanes) (az_tz f_from) (az_tz f_to) (az_tz f_width) (az_tz f_length) (az_tz f_shut) (iz_tz f_safeRooms) (iz_tz f_people) (iz_tz f_led) (az_tz f_notLed) (az_tz f_entering) (az_tz f_latest) (az_tz f_step) (az_tz f_wayEntry) (az_tz f_wayAhead) (iz_tz f_waySteps) (iz_tz f_wayWidth) (post := fun r u => LV (tz m_state) r ∧ FIt u) (sp_last hP hQ.2.1 hF (fun x u hx hu => ⟨hx, hu⟩)) (fun r u x y hu ex ey => ?_)
  subst ex ey
  refine lift_X5_last (az_tz m_state) (az_tz m_goes) (az_tz m_waits) (az_tz m_still) (az_tz m_cameFrom) (az_tz m_cameBy) (az_tz m_wave) (iz_tz m_waved) (iz_tz m_goal) (iz_tz m_goalBy) (iz_tz m_until) (post := fun r u => LV (tz m_state) r) (sp5_last hP (fun x u hx => hx)) (fun r2 w x y hw ex ey => ?_)
  subst ex ey
  exact ⟨congrArg iz (LV.one hu.1 hw), hQ, hG, hD, FI_az hu.2, hH⟩
theorem op_helps : lw_Op_helps lw_Inv := by
  intro x_imagesKept q_people q_area q_safeRooms q_passages q_from q_to q_width q_length q_shut qa_people qa_area qa_safeRooms qa_passages qa_from qa_to qa_width qa_length qa_shut qb_people qb_area qb_safeRooms qb_passages qb_from qb_to qb_width qb_length qb_shut d_signs d_size f_lanes f_from f_to f_width f_length f_shut f_safeRooms f_people f_led f_notLed f_entering f_latest f_step f_wayEntry f_wayAhead f_waySteps f_wayWidth g_lanes g_from g_to g_width g_length g_shut g_safeRooms g_people g_led g_notLed g_entering g_latest g_step g_wayEntry g_wayAhead g_waySteps g_wayWidth t_here t_arriving t_distance t_firstPassage m_state m_images m_isKept m_pad m_said m_goes m_waits m_still m_cameFrom m_cameBy m_wave m_waved m_goal m_goalBy m_until m_here m_coming m_far hI
  obtain ⟨hQ, hG, hD, hF, hH⟩ := hI
  have hP := hQ.1.1
  refine lift_X4_helps (az_tz q_people) (iz_tz q_safeRooms) (iz_tz q_passages) (az_tz q_from) (az_tz q_to) (az_tz q_width) (az_tz q_length) (az_tz q_shut) (iz_tz f_lanes) (az_tz f_from) (az_tz f_to) (az_tz f_width) (az_tz f_length) (az_tz f_shut) (iz_tz f_safeRooms) (iz_tz f_people) (iz_tz f_led) (az_tz f_notLed) (az_tz f_entering) (az_tz f_latest) (az_tz f_step) (az_tz f_wayEntry) (az_tz f_wayAhead) (iz_tz f_waySteps) (iz_tz f_wayWidth) (iz_tz g_lanes) (az_tz g_from) (az_tz g_to) (az_tz g_width) (az_tz g_length) (az_tz g_shut) (iz_tz g_safeRooms) (iz_tz g_people) (iz_tz g_led) (az_tz g_notLed) (az_tz g_entering) (az_tz g_latest) (az_tz g_step) (az_tz g_wayEntry) (az_tz g_wayAhead) (iz_tz g_waySteps) (iz_tz g_wayWidth) (post := fun r u => R_helps (tz m_state) r ∧ FI2 u) (sp_helps hQ.1 hQ.2.1 hF hH (fun x u hx hu => ⟨⟨x, hx, rfl⟩, hu⟩)) (fun r u x y hu ex ey => ?_)
  subst ex ey
  refine lift_X5_helps (az_tz m_state) (az_tz m_goes) (az_tz m_waits) (az_tz m_still) (az_tz m_cameFrom) (az_tz m_cameBy) (az_tz m_wave) (iz_tz m_waved) (iz_tz m_goal) (iz_tz m_goalBy) (iz_tz m_until) (post := fun r u => R_helps (tz m_state) r ∧ u.1 = tz m_state) (sp5_helps hQ.1 (fun x u hx => ⟨⟨x, hx, rfl⟩, rfl⟩)) (fun r2 w x y hw ex ey => ?_)
  subst ex ey
  have em : az w.1 = m_state := by rw [hw.2]; exact (az_tz m_state).symm
  have hQ2 : PI (tz q_people) (tz q_area) q_safeRooms.toInt q_passages.toInt (tz q_from) (tz q_to) (tz q_width) (tz q_length) (tz q_shut) (tz (az w.1)) := by rw [em]; exact hQ
  exact ⟨congrArg iz (R_helps.one hu.1 hw.1), hQ2, hG, hD, FI_az hu.2.1, FI_az hu.2.2⟩
theorem op_needed : lw_Op_needed lw_Inv := by
  intro x_imagesKept q_people q_area q_safeRooms q_passages q_from q_to q_width q_length q_shut qa_people qa_area qa_safeRooms qa_passages qa_from qa_to qa_width qa_length qa_shut qb_people qb_area qb_safeRooms qb_passages qb_from qb_to qb_width qb_length qb_shut d_signs d_size f_lanes f_from f_to f_width f_length f_shut f_safeRooms f_people f_led f_notLed f_entering f_latest f_step f_wayEntry f_wayAhead f_waySteps f_wayWidth g_lanes g_from g_to g_width g_length g_shut g_safeRooms g_people g_led g_notLed g_entering g_latest g_step g_wayEntry g_wayAhead g_waySteps g_wayWidth t_here t_arriving t_distance t_firstPassage m_state m_images m_isKept m_pad m_said m_goes m_waits m_still m_cameFrom m_cameBy m_wave m_waved m_goal m_goalBy m_until m_here m_coming m_far hI
  obtain ⟨hQ, hG, hD, hF, hH⟩ := hI
  have hP := hQ.1.1
  refine lift_X4_needed (az_tz q_people) (iz_tz q_safeRooms) (iz_tz q_passages) (az_tz q_from) (az_tz q_to) (az_tz q_width) (az_tz q_length) (az_tz q_shut) (iz_tz f_lanes) (az_tz f_from) (az_tz f_to) (az_tz f_width) (az_tz f_length) (az_tz f_shut) (iz_tz f_safeRooms) (iz_tz f_people) (iz_tz f_led) (az_tz f_notLed) (az_tz f_entering) (az_tz f_latest) (az_tz f_step) (az_tz f_wayEntry) (az_tz f_wayAhead) (iz_tz f_waySteps) (iz_tz f_wayWidth) (iz_tz g_lanes) (az_tz g_from) (az_tz g_to) (az_tz g_width) (az_tz g_length) (az_tz g_shut) (iz_tz g_safeRooms) (iz_tz g_people) (iz_tz g_led) (az_tz g_notLed) (az_tz g_entering) (az_tz g_latest) (az_tz g_step) (az_tz g_wayEntry) (az_tz g_wayAhead) (iz_tz g_waySteps) (iz_tz g_wayWidth) (post := fun r u => R_needed (tz m_state) r ∧ FI2 u) (sp_needed hP hQ.2.1 hF hH (fun x u hx hu => ⟨⟨x, hx, rfl⟩, hu⟩)) (fun r u x y hu ex ey => ?_)
  subst ex ey
  refine lift_X5_needed (az_tz m_state) (az_tz m_goes) (az_tz m_waits) (az_tz m_still) (az_tz m_cameFrom) (az_tz m_cameBy) (az_tz m_wave) (iz_tz m_waved) (iz_tz m_goal) (iz_tz m_goalBy) (iz_tz m_until) (post := fun r u => R_needed (tz m_state) r ∧ u.1 = tz m_state) (sp5_needed hP (fun x u hx => ⟨⟨x, hx, rfl⟩, rfl⟩)) (fun r2 w x y hw ex ey => ?_)
  subst ex ey
  have em : az w.1 = m_state := by rw [hw.2]; exact (az_tz m_state).symm
  have hQ2 : PI (tz q_people) (tz q_area) q_safeRooms.toInt q_passages.toInt (tz q_from) (tz q_to) (tz q_width) (tz q_length) (tz q_shut) (tz (az w.1)) := by rw [em]; exact hQ
  exact ⟨congrArg iz (R_needed.one hu.1 hw.1), hQ2, hG, hD, FI_az hu.2.1, FI_az hu.2.2⟩
theorem op_door : lw_Op_door lw_Inv := by
  intro a1 x_imagesKept q_people q_area q_safeRooms q_passages q_from q_to q_width q_length q_shut qa_people qa_area qa_safeRooms qa_passages qa_from qa_to qa_width qa_length qa_shut qb_people qb_area qb_safeRooms qb_passages qb_from qb_to qb_width qb_length qb_shut d_signs d_size f_lanes f_from f_to f_width f_length f_shut f_safeRooms f_people f_led f_notLed f_entering f_latest f_step f_wayEntry f_wayAhead f_waySteps f_wayWidth g_lanes g_from g_to g_width g_length g_shut g_safeRooms g_people g_led g_notLed g_entering g_latest g_step g_wayEntry g_wayAhead g_waySteps g_wayWidth t_here t_arriving t_distance t_firstPassage m_state m_images m_isKept m_pad m_said m_goes m_waits m_still m_cameFrom m_cameBy m_wave m_waved m_goal m_goalBy m_until m_here m_coming m_far hI
  obtain ⟨hQ, hG, hD, hF, hH⟩ := hI
  have hP := hQ.1.1
  refine lift_X4_door (iz_tz a1) (az_tz q_people) (iz_tz q_safeRooms) (iz_tz q_passages) (az_tz q_from) (az_tz q_to) (az_tz q_width) (az_tz q_length) (az_tz q_shut) (iz_tz f_lanes) (az_tz f_from) (az_tz f_to) (az_tz f_width) (az_tz f_length) (az_tz f_shut) (iz_tz f_safeRooms) (iz_tz f_people) (iz_tz f_led) (az_tz f_notLed) (az_tz f_entering) (az_tz f_latest) (az_tz f_step) (az_tz f_wayEntry) (az_tz f_wayAhead) (iz_tz f_waySteps) (iz_tz f_wayWidth) (iz_tz g_lanes) (az_tz g_from) (az_tz g_to) (az_tz g_width) (az_tz g_length) (az_tz g_shut) (iz_tz g_safeRooms) (iz_tz g_people) (iz_tz g_led) (az_tz g_notLed) (az_tz g_entering) (az_tz g_latest) (az_tz g_step) (az_tz g_wayEntry) (az_tz g_wayAhead) (iz_tz g_waySteps) (iz_tz g_wayWidth) (post := fun r u => R_door (tz m_state) a1.toInt r ∧ FI2 u) (sp_door hP hQ.2.1 hF hH (sm_tz a1) (fun u z hu => ⟨Or.inl ⟨z, rfl⟩, hu⟩) (fun x u z1 z2 hx he hu => ⟨Or.inr ⟨z1, z2, x, hx, Or.inl ⟨he, rfl⟩⟩, hu⟩) (fun x y u z1 z2 hx he hd hu => ⟨Or.inr ⟨z1, z2, x, hx, Or.inr ⟨he, hd⟩⟩, hu⟩)) (fun r u x y hu ex ey => ?_)
  subst ex ey
  refine lift_X5_door (iz_tz a1) (az_tz m_state) (az_tz m_goes) (az_tz m_waits) (az_tz m_still) (az_tz m_cameFrom) (az_tz m_cameBy) (az_tz m_wave) (iz_tz m_waved) (iz_tz m_goal) (iz_tz m_goalBy) (iz_tz m_until) (post := fun r u => R_door (tz m_state) a1.toInt r ∧ u.1 = tz m_state) (sp5_door hP (sm_tz a1) (fun u z => ⟨Or.inl ⟨z, rfl⟩, rfl⟩) (fun x u z1 z2 hx he => ⟨Or.inr ⟨z1, z2, x, hx, Or.inl ⟨he, rfl⟩⟩, rfl⟩) (fun x y u z1 z2 hx he hd => ⟨Or.inr ⟨z1, z2, x, hx, Or.inr ⟨he, hd⟩⟩, rfl⟩)) (fun r2 w x y hw ex ey => ?_)
  subst ex ey
  have em : az w.1 = m_state := by rw [hw.2]; exact (az_tz m_state).symm
  have hQ2 : PI (tz q_people) (tz q_area) q_safeRooms.toInt q_passages.toInt (tz q_from) (tz q_to) (tz q_width) (tz q_length) (tz q_shut) (tz (az w.1)) := by rw [em]; exact hQ
  exact ⟨congrArg iz (R_door.one hu.1 hw.1), hQ2, hG, hD, FI_az hu.2.1, FI_az hu.2.2⟩
theorem op_rush : lw_Op_rush lw_Inv := by
  intro a1 x_imagesKept q_people q_area q_safeRooms q_passages q_from q_to q_width q_length q_shut qa_people qa_area qa_safeRooms qa_passages qa_from qa_to qa_width qa_length qa_shut qb_people qb_area qb_safeRooms qb_passages qb_from qb_to qb_width qb_length qb_shut d_signs d_size f_lanes f_from f_to f_width f_length f_shut f_safeRooms f_people f_led f_notLed f_entering f_latest f_step f_wayEntry f_wayAhead f_waySteps f_wayWidth g_lanes g_from g_to g_width g_length g_shut g_safeRooms g_people g_led g_notLed g_entering g_latest g_step g_wayEntry g_wayAhead g_waySteps g_wayWidth t_here t_arriving t_distance t_firstPassage m_state m_images m_isKept m_pad m_said m_goes m_waits m_still m_cameFrom m_cameBy m_wave m_waved m_goal m_goalBy m_until m_here m_coming m_far hI
  obtain ⟨hQ, hG, hD, hF, hH⟩ := hI
  have hP := hQ.1.1
  refine lift_X4_rush (iz_tz a1) (az_tz q_people) (iz_tz q_safeRooms) (iz_tz q_passages) (az_tz q_from) (az_tz q_to) (az_tz q_width) (az_tz q_length) (az_tz q_shut) (az_tz t_here) (az_tz t_arriving) (az_tz t_distance) (az_tz t_firstPassage) (post := fun r u => R_rush (tz m_state) a1.toInt r) (sp_rush hP hQ.2.1 (sm_tz a1) (fun u z => Or.inl ⟨z, rfl⟩) (fun u z1 z2 => Or.inr ⟨z1, z2, rfl⟩)) (fun r u x y hu ex ey => ?_)
  subst ex ey
  refine lift_X5_rush (iz_tz a1) (az_tz m_state) (az_tz m_here) (az_tz m_coming) (az_tz m_far) (post := fun r u => R_rush (tz m_state) a1.toInt r) (sp5_rush hP (sm_tz a1) (fun u z => Or.inl ⟨z, rfl⟩) (fun u z1 z2 => Or.inr ⟨z1, z2, rfl⟩)) (fun r2 w x y hw ex ey => ?_)
  subst ex ey
  exact ⟨congrArg iz (R_rush.one hu hw), hQ, hG, hD, hF, hH⟩
theorem op_rushed : lw_Op_rushed lw_Inv := by
  intro x_imagesKept q_people q_area q_safeRooms q_passages q_from q_to q_width q_length q_shut qa_people qa_area qa_safeRooms qa_passages qa_from qa_to qa_width qa_length qa_shut qb_people qb_area qb_safeRooms qb_passages qb_from qb_to qb_width qb_length qb_shut d_signs d_size f_lanes f_from f_to f_width f_length f_shut f_safeRooms f_people f_led f_notLed f_entering f_latest f_step f_wayEntry f_wayAhead f_waySteps f_wayWidth g_lanes g_from g_to g_width g_length g_shut g_safeRooms g_people g_led g_notLed g_entering g_latest g_step g_wayEntry g_wayAhead g_waySteps g_wayWidth t_here t_arriving t_distance t_firstPassage m_state m_images m_isKept m_pad m_said m_goes m_waits m_still m_cameFrom m_cameBy m_wave m_waved m_goal m_goalBy m_until m_here m_coming m_far hI
  obtain ⟨hQ, hG, hD, hF, hH⟩ := hI
  have hP := hQ.1.1
  refine lift_X4_rushed (az_tz q_people) (iz_tz q_safeRooms) (iz_tz q_passages) (az_tz q_from) (az_tz q_to) (az_tz q_width) (az_tz q_length) (az_tz q_shut) (az_tz t_here) (az_tz t_arriving) (az_tz t_distance) (az_tz t_firstPassage) (post := fun r u => rhS (tz m_state) r) (sp_rushed hP hQ.2.1 (fun y u hy => hy)) (fun r u x y hu ex ey => ?_)
  subst ex ey
  refine lift_X5_rushed (az_tz m_state) (az_tz m_here) (az_tz m_coming) (az_tz m_far) (post := fun r u => rhS (tz m_state) r) (sp5_rushed hP (fun y u hy => hy)) (fun r2 w x y hw ex ey => ?_)
  subst ex ey
  exact ⟨congrArg iz (rhS.one hu hw), hQ, hG, hD, hF, hH⟩
