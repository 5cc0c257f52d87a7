/-! leadBy: as many are led as can be -/
def FZ (nL : Nat) (F G L Wd Sh : Nat → Int) (m : Int) (su : Nat → Int) (T : Nat) (E nl : Nat → Int) : Prop := FL nL (fun l => (F l).toNat) (fun l => (G l).toNat) (fun l => (L l).toNat) Wd Sh (sfm m) su T E nl
/-- v is left behind at least -/
def MZ (nL : Nat) (F G L Wd Sh : Nat → Int) (m : Int) (su : Nat → Int) (T : Nat) (v : Int) : Prop := ∀ E nl, FZ nL F G L Wd Sh m su T E nl → v ≤ sg nl 6
def SU (m : Int) (su : Nat → Int) : Prop := ∀ r, r < 6 → 0 ≤ su r ∧ su r ≤ 30 ∧ (sfm m r = true → su r = 0)
theorem su_sum {m : Int} {su : Nat → Int} (h : SU m su) : sg su 6 ≤ 180 := by
  have h1 : sg su 6 ≤ sg (fun _ => 30) 6 := sg_le (fun r hr => (h r hr).2.1)
  exact h1
theorem FZ.bounds {nL : Nat} {F G L Wd Sh : Nat → Int} {m : Int} {su : Nat → Int} {T : Nat} {E nl : Nat → Int} (hNV : NV nL F G L Wd Sh) (hsu : SU m su) (h : FZ nL F G L Wd Sh m su T E nl) :
    (∀ e, e < 976 → 0 ≤ E e ∧ E e ≤ 1000) ∧ (∀ e, e < 976 → E e ≠ 0 → sfm m (F (e / 61)).toNat = false) ∧ (∀ r, r < 6 → 0 ≤ nl r ∧ nl r ≤ 1000) ∧ (∀ r, r < 6 → sfm m r = true → nl r = 0) ∧ 0 ≤ sg nl 6 ∧ sg nl 6 ≤ 180 ∧ (∀ l t : Nat, l < 6 → t < 61 → E (l * 61 + t) ≤ 180 - sg nl 6) := by
  have hs : ∀ l t : Nat, l < 6 → t < 61 → E (l * 61 + t) ≤ 180 - sg nl 6 := by
    intro l t hl ht
    have w1 := FL.slice h (fun r hr q => (hsu r hr).2.2 q) (l := l) (t := t) (by omega) ht (by
      show 1 ≤ (L l).toNat
      rw [(hNV.2.2.2 l hl).2.2.1]; decide)
    have w2 := sg_sub su nl 6
    have w3 := su_sum hsu
    omega
  have hnn : 0 ≤ sg nl 6 := sg_nonneg (fun r hr => (h.2.2.2.1 r hr).1)
  have hle : sg nl 6 ≤ sg su 6 := sg_le (fun r hr => (h.2.2.2.1 r hr).2)
  have w3 := su_sum hsu
  refine ⟨fun e he => ⟨h.1 e he, ?_⟩, fun e he hne => (h.2.1 e he hne).2.1, fun r hr => ?_, fun r hr q => ?_, hnn, by omega, hs⟩
  · by_cases q : e < 366
    · have := hs (e / 61) (e % 61) (by omega) (by omega)
      rw [show e / 61 * 61 + e % 61 = e by omega] at this
      omega
    · by_cases q2 : E e = 0
      · omega
      · have c := h.2.1 e he q2
        have c2 := h.2.2.1 e he (by omega) c.1
        have c3 := hNV.2.2.1 _ c.1
        omega
  · have := h.2.2.2.1 r hr
    have := hsu r hr
    omega
  · have := h.2.2.2.1 r hr
    have := (hsu r hr).2.2 q
    omega
/-- nothing found: nobody leaves fewer behind -/
theorem Shutz.min {nL : Nat} {F G L Wd Sh : Nat → Int} {m : Int} {su : Nat → Int} {T : Nat} {E nl La : Nat → Int} (hNV : NV nL F G L Wd Sh) (hsu : SU m su) (h : FZ nL F G L Wd Sh m su T E nl) (hT : T ≤ 60) (hS : Shutz nL F G L Wd Sh m T E nl La) : MZ nL F G L Wd Sh m su T (sg nl 6) := by
  intro E' nl' h'
  obtain ⟨s1, s2, s3, s4⟩ := hS
  refine FL.max (R := fun r t => decide ((t : Int) ≤ La r)) (fun r hr q => (hsu r hr).2.2 q) h h' ⟨fun l t hl ht hsf hsh hln hto hE => ?_, fun l t hl ht hsf hln hE hR => ?_, fun r hr hn => ?_⟩
  · show decide ((t : Int) ≤ La (F l).toNat) = true
    have hsf : sfm m (F l).toNat = false := hsf
    have hln : t + (L l).toNat ≤ T := hln
    have hto : sfm m (G l).toNat = true ∨ decide (((t + (L l).toNat : Nat) : Int) ≤ La (G l).toNat) = true := hto
    have hvl := hNV.2.2.1 l hl
    rw [decide_eq_true_eq] at hto ⊢
    have hG : ((t + (L l).toNat : Nat) : Int) ≤ La (G l).toNat := by
      rcases hto with q | q
      · have := (s1 (G l).toNat (by omega)).1 q; omega
      · exact q
    by_cases q6 : 6 ≤ l
    · by_cases q : (t : Int) ≤ La (F l).toNat
      · exact q
      · have := (s3 l q6 hl hsf).1 t (by omega) hsh (by omega)
        have := hE q6
        omega
    · have hw := hNV.2.2.2 l (by omega)
      rw [hw.1]
      rw [hw.2.1] at hG
      rw [Int.toNat_natCast] at *
      omega
  · show sfm m (G l).toNat = true ∨ decide (((t + (L l).toNat : Nat) : Int) ≤ La (G l).toNat) = true
    have hR : decide ((t : Int) ≤ La (F l).toNat) = true := hR
    have hln : t + (L l).toNat ≤ T := hln
    have hsf : sfm m (F l).toNat = false := hsf
    have hvl := hNV.2.2.1 l hl
    rw [decide_eq_true_eq] at hR ⊢
    refine Or.inr ?_
    by_cases q6 : 6 ≤ l
    · by_cases q : ((t + (L l).toNat : Nat) : Int) ≤ La (G l).toNat
      · exact q
      · have := (s3 l q6 hl hsf).2 t hR (by omega) (by omega)
        omega
    · have hw := hNV.2.2.2 l (by omega)
      rw [hw.1, Int.toNat_natCast] at hR
      rw [hw.2.1, hw.2.2.1, Int.toNat_natCast]
      rw [hw.2.2.1] at hln
      have hb := s1 l (by omega)
      by_cases q : (t : Int) < La l
      · show ((t + 1 : Nat) : Int) ≤ La l
        omega
      · have e1 : La l = t := by omega
        have e2 := s2 l (by omega)
        unfold NWc at e2
        rw [e1, Int.toNat_natCast] at e2
        have hln : t + 1 ≤ T := hln
        have := e2 (by omega) (by omega)
        omega
  · show decide (((0 : Nat) : Int) ≤ La r) = false
    rw [decide_eq_false_iff_not]
    have := s4 r hr hn
    omega
section Lead
variable {nL : Nat} {F G L Wd Sh : Nat → Int} {m : Int} {su : Nat → Int} {T : Nat} {P : Int}
theorem lead_L (hNV : NV nL F G L Wd Sh) (hm0 : 0 ≤ m ∧ m < 64) (hT : T ≤ 60) (hsu : SU m su) (hP : 0 ≤ P ∧ P ≤ 180) {K : Int → (Nat → Int) → (Nat → Int) → (Nat → Int) → (Nat → Int) → (Nat → Int) → (Nat → Int) → Int → Int → Prop} {post : Int → (Int × (Nat → Int) × (Nat → Int) × (Nat → Int) × (Nat → Int) × (Nat → Int) × (Nat → Int) × Int × Int) → Prop}
    (hK : ∀ led nl E La St WE WA ws ww, led = P - sg nl 6 → FZ nL F G L Wd Sh m su T E nl → MZ nL F G L Wd Sh m su T (sg nl 6) → K led nl E La St WE WA ws ww) (hp : ∀ led nl E La St WE WA ws ww, led = P - sg nl 6 → FZ nL F G L Wd Sh m su T E nl → MZ nL F G L Wd Sh m su T (sg nl 6) → post led (led, nl, E, La, St, WE, WA, ws, ww)) :
    ∀ (d : Nat) (v2 led : Int) (nl E La St WE WA : Nat → Int) (ws ww : Int), v2 + d = 182 → 0 ≤ v2 → v2 + sg nl 6 ≤ 180 → led = P - sg nl 6 → FZ nL F G L Wd Sh m su T E nl → iv_X0_leadBy_L2 K post T nL F G Wd L Sh m P (d + 1) v2 led nl E La St WE WA ws ww
  | d, v2, led, nl, E, La, St, WE, WA, ws, ww, hd, h2, h3, hled, hF => by
    obtain ⟨b1, b2, b3, b4, b5, b6, b7⟩ := hF.bounds hNV hsu
    rw [iv_X0_leadBy_L2]
    refine ⟨⟨smz (by omega) (by omega), smz (by omega) (by omega)⟩, fun c => by omega, fun c => ⟨⟨smz (by omega) (by omega), smz (by omega) (by omega)⟩, fun c2 => ?_, fun c2 => ?_⟩⟩
    · refine hK led nl E La St WE WA ws ww hled hF (fun E' nl' h' => ?_)
      have := (h'.bounds hNV hsu).2.2.2.2.1
      omega
    · refine sp_find hNV hm0 (by omega) (by omega) b1 b2 b3 b4 (fun u hu => ?_) (fun a u ha hn hu1 hu2 => ?_)
      · exact ⟨⟨smz (by omega) (by omega), smz (by omega) (by omega)⟩, fun z => absurd z (by decide), fun _ => hp led nl E u.1 u.2 WE WA ws ww hled hF (hu.min hNV hsu hF hT)⟩
      · obtain ⟨rk, hu2⟩ := hu2
        refine ⟨⟨smz (by omega) (by omega), smz (by omega) (by omega)⟩, fun _ => ?_, fun z => absurd (by omega) z⟩
        have hna := sg_ge_one (f := nl) ha (fun i hi => (b3 i hi).1)
        refine sp_trace hNV hm0 (by omega) (by omega) b1 (fun l t hl ht => by have := b7 l t hl ht; omega) hu2 ha hu1 hn (b3 a ha).2 (fun N ur ut WE' WA' w hN hTP hend => ?_)
        have hnew := hTP.flow hNV hF ha hend
        have hw1 := hTP.2.2.1
        have hw2 := hTP.2.2.2.1
        have hw3 := (b3 a ha).2
        show (sm 0 ∧ sm w) ∧ ((0 < w → _) ∧ (¬ 0 < w → _))
        refine ⟨⟨smz (by omega) (by omega), smz (by omega) (by omega)⟩, fun _ => ?_, fun c9 => absurd (by omega) c9⟩
        refine sp_lead ha hN (fun n hn => ⟨(hTP.2.2.2.2 n hn).1, ?_⟩) (fun x hx => ?_)
        · rcases (hTP.2.2.2.2 n hn).2.1 with ⟨q, _⟩ | ⟨q, _⟩
          · exact Or.inl q
          · exact Or.inr q
        · subst hx
          have hsum : sg (uz nl a (nl a - w)) 6 = sg nl 6 - w := by
            rw [sg_set (f := nl) ha (fun i _ hne => uz_n hne), uz_s]
            omega
          match d, hd with
          | 0, hd => exact absurd hd (by omega)
          | d + 1, hd => exact lead_L hNV hm0 hT hsu hP hK hp d (v2 + 1) (led + w) _ _ u.1 u.2 WE' WA' N w (by omega) (by omega) (by rw [hsum]; omega) (by rw [hsum]; omega) hnew
theorem sp_leadBy (hNV : NV nL F G L Wd Sh) (hm0 : 0 ≤ m ∧ m < 64) (hT : T ≤ 60) (hsu : SU m su) (hP : 0 ≤ P ∧ P ≤ 180) {led : Int} {nl E La St WE WA : Nat → Int} {ws ww : Int} (hled : led = P - sg nl 6) (hF : FZ nL F G L Wd Sh m su T E nl) {post : Int → (Int × (Nat → Int) × (Nat → Int) × (Nat → Int) × (Nat → Int) × (Nat → Int) × (Nat → Int) × Int × Int) → Prop}
    (hp : ∀ led nl E La St WE WA ws ww, led = P - sg nl 6 → FZ nL F G L Wd Sh m su T E nl → MZ nL F G L Wd Sh m su T (sg nl 6) → post led (led, nl, E, La, St, WE, WA, ws, ww)) : iv_X0_leadBy T nL F G Wd L Sh m P led nl E La St WE WA ws ww post := by
  obtain ⟨b1, b2, b3, b4, b5, b6, b7⟩ := hF.bounds hNV hsu
  rw [iv_X0_leadBy]
  exact ⟨183, lead_L hNV hm0 hT hsu hP hp hp 182 0 led nl E La St WE WA ws ww (by omega) (by omega) (by omega) hled hF⟩
theorem sp_leadsAllBy (hNV : NV nL F G L Wd Sh) (hm0 : 0 ≤ m ∧ m < 64) (hT : T ≤ 60) (hsu : SU m su) (hP : 0 ≤ P ∧ P ≤ 180) {led : Int} {nl E La St WE WA : Nat → Int} {ws ww : Int} (hled : led = P - sg nl 6) (hF : FZ nL F G L Wd Sh m su T E nl) {post : Int → (Int × (Nat → Int) × (Nat → Int) × (Nat → Int) × (Nat → Int) × (Nat → Int) × (Nat → Int) × Int × Int) → Prop}
    (hp : ∀ led nl E La St WE WA ws ww, led = P - sg nl 6 → FZ nL F G L Wd Sh m su T E nl → MZ nL F G L Wd Sh m su T (sg nl 6) → post (if sg nl 6 = 0 then 1 else 0) (led, nl, E, La, St, WE, WA, ws, ww)) : iv_X0_leadsAllBy T nL F G Wd L Sh m P led nl E La St WE WA ws ww post := by
  rw [iv_X0_leadsAllBy]
  refine sp_leadBy hNV hm0 hT hsu hP hled hF (fun led nl E La St WE WA ws ww h1 h2 h3 => ?_)
  obtain ⟨b1, b2, b3, b4, b5, b6, b7⟩ := h2.bounds hNV hsu
  have := hp led nl E La St WE WA ws ww h1 h2 h3
  refine ⟨⟨smz (by omega) (by omega), smz (by omega) (by omega)⟩, fun c => ?_, fun c => ?_⟩
  · rw [if_neg (by omega)] at this; exact this
  · rw [if_pos (by omega)] at this; exact this
end Lead
theorem sp_allPeople {pe : Nat → Int} {post : Int → Unit → Prop} (hp : post (sg pe 6) ()) : iv_X2_allPeople pe post := by
  rw [iv_X2_allPeople]
  have key : ∀ (d k : Nat), k + d = 6 → iv_X2_allPeople_L4 (fun k1_9 => post k1_9 ()) pe (d + 1) (sg pe k) k := by
    intro d
    induction d with
    | zero =>
      intro k hk
      rw [iv_X2_allPeople_L4]
      have : k = 6 := by omega
      subst this
      exact ⟨⟨smz (by omega) (by omega), smz (by omega) (by omega)⟩, fun _ => hp, fun c => absurd (by omega) c⟩
    | succ d ih =>
      intro k hk
      rw [iv_X2_allPeople_L4]
      simp only [Int.toNat_natCast]
      refine ⟨⟨smz (by omega) (by omega), smz (by omega) (by omega)⟩, fun c => by omega, fun c => ⟨by omega, fun x hx y hy => ?_⟩⟩
      subst hx hy
      exact ih (k + 1) (by omega)
  exact ⟨7, key 6 0 (by omega)⟩
/-- begin(plan): nobody is led yet but who is in a safe room -/
theorem sp_begin {f_lanes : Int} {f_from f_to f_width f_length f_shut : Nat → Int} {f_safeRooms f_people f_led : Int} {f_notLed f_entering pe : Nat → Int} {m P : Int} {qf qt qw ql qs : Nat → Int} {post : (Int × (Nat → Int) × (Nat → Int) × (Nat → Int) × (Nat → Int) × (Nat → Int) × Int × Int × Int × (Nat → Int) × (Nat → Int)) → Prop} (hm0 : 0 ≤ m ∧ m < 64)
    (hp : ∀ nl : Nat → Int, (∀ r, r < 6 → nl r = if sfm m r = true then 0 else pe r) → post (6 + P, va_cpy qf f_from 0 6 10, va_cpy qt f_to 0 6 10, va_cpy qw f_width 0 6 10, va_cpy ql f_length 0 6 10, va_cpy qs f_shut 0 6 10, m, sg pe 6, sg pe 6 - sg nl 6, nl, fz 976 0 f_entering)) :
    iv_X0_begin f_lanes f_from f_to f_width f_length f_shut f_safeRooms f_people f_led f_notLed f_entering pe m P qf qt qw ql qs post := by
  rw [iv_X0_begin]
  refine sp_allPeople ?_
  have key : ∀ {K : Int → (Nat → Int) → Prop}, (∀ nl : Nat → Int, (∀ r, r < 6 → nl r = if sfm m r = true then 0 else pe r) → K (sg pe 6 - sg nl 6) nl) → ∀ (d k : Nat) (nl : Nat → Int), k + d = 6 → (∀ r, r < k → nl r = if sfm m r = true then 0 else pe r) → iv_X0_begin_L117 K m pe (d + 1) k (sg pe 6 - sg nl k) nl := by
    intro K hK d
    induction d with
    | zero =>
      intro k nl hk hi
      rw [iv_X0_begin_L117]
      have : k = 6 := by omega
      subst this
      exact ⟨⟨smz (by omega) (by omega), smz (by omega) (by omega)⟩, fun _ => hK nl hi, fun c => absurd (by omega) c⟩
    | succ d ih =>
      intro k nl hk hi
      rw [iv_X0_begin_L117]
      simp only [Int.toNat_natCast]
      have hz : sm 0 := smz (by omega) (by omega)
      have hstep : ∀ z : Int, (z = if sfm m k = true then 0 else pe k) → iv_X0_begin_L117 K m pe (d + 1) ((k : Int) + 1) (sg pe 6 - sg nl k - uz nl k z k) (uz nl k z) := by
        intro z hz
        have h1 := ih (k + 1) (uz nl k z) (by omega) (fun r hr => by
          by_cases q : r = k
          · subst q; rw [uz_s]; exact hz
          · rw [uz_n q]; exact hi r (by omega))
        rw [show sg (uz nl k z) (k + 1) = sg nl k + z from by
          show sg (uz nl k z) k + uz nl k z k = _
          rw [uz_s, sg_congr (f := uz nl k z) (g := nl) (fun i hi => uz_n (by omega))]] at h1
        rw [uz_s, show sg pe 6 - sg nl k - z = sg pe 6 - (sg nl k + z) by omega]
        exact h1
      refine ⟨⟨smz (by omega) (by omega), smz (by omega) (by omega)⟩, fun c => by omega, fun c => sp_isIn hm0 (by omega) ?_⟩
      by_cases hs : sfm m k = true
      · rw [if_pos hs]
        refine ⟨⟨smz (by omega) (by omega), hz⟩, fun c2 => absurd c2 (by decide), fun _ => ⟨by omega, by omega, fun x hx => ?_⟩⟩
        subst hx
        exact hstep 0 (by rw [if_pos hs])
      · rw [if_neg hs]
        refine ⟨⟨smz (by omega) (by omega), hz⟩, fun _ => ⟨by omega, by omega, by omega, fun x hx => ?_⟩, fun c2 => absurd rfl c2⟩
        subst hx
        exact hstep (pe k) (by rw [if_neg hs])
  refine ⟨7, ?_⟩
  have := key (K := fun f_led_36 f_notLed_37 => post ((6 + P), (va_cpy qf f_from 0 6 10), (va_cpy qt f_to 0 6 10), (va_cpy qw f_width 0 6 10), (va_cpy ql f_length 0 6 10), (va_cpy qs f_shut 0 6 10), m, sg pe 6, f_led_36, f_notLed_37, (fz 976 0 f_entering))) (fun nl h => hp nl h) 6 0 f_notLed (by omega) (fun r hr => absurd hr (Nat.not_lt_zero r))
  rw [show sg pe 6 - sg f_notLed 0 = sg pe 6 from by show sg pe 6 - 0 = _; omega] at this
  exact this
