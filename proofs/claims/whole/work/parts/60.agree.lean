/-! THE CLASS'S FLOW OVER THE REFERENCE'S NET -/
def smS (S : Nat → Int) : Int := S 12 + 2 * S 13 + 4 * S 14 + 8 * S 15 + 16 * S 16 + 32 * S 17
theorem smS_b {S : Nat → Int} (h : PV S) : 0 ≤ smS S ∧ smS S < 64 := by
  have h0 := (h.1 0 (by omega)).2.2.2.2
  have h1 := (h.1 1 (by omega)).2.2.2.2
  have h2 := (h.1 2 (by omega)).2.2.2.2
  have h3 := (h.1 3 (by omega)).2.2.2.2
  have h4 := (h.1 4 (by omega)).2.2.2.2
  have h5 := (h.1 5 (by omega)).2.2.2.2
  unfold smS
  have h0 : S 12 = 0 ∨ S 12 = 1 := h0
  have h1 : S 13 = 0 ∨ S 13 = 1 := h1
  have h2 : S 14 = 0 ∨ S 14 = 1 := h2
  have h3 : S 15 = 0 ∨ S 15 = 1 := h3
  have h4 : S 16 = 0 ∨ S 16 = 1 := h4
  have h5 : S 17 = 0 ∨ S 17 = 1 := h5
  omega
theorem sfm_smS {S : Nat → Int} (h : PV S) : sfm (smS S) = sfS S := by
  have hb := smS_b h
  have hn : ∀ k, k < 6 → ∃ a : Nat, a < 2 ∧ S (12 + k) = a := by
    intro k hk
    have := (h.1 k hk).2.2.2.2
    exact ⟨(S (12 + k)).toNat, by omega, by omega⟩
  obtain ⟨a, a1, a2⟩ := hn 0 (by omega)
  obtain ⟨b, b1, b2⟩ := hn 1 (by omega)
  obtain ⟨c, c1, c2⟩ := hn 2 (by omega)
  obtain ⟨d, d1, d2⟩ := hn 3 (by omega)
  obtain ⟨e, e1, e2⟩ := hn 4 (by omega)
  obtain ⟨f, f1, f2⟩ := hn 5 (by omega)
  have a2 : S 12 = a := a2
  have b2 : S 13 = b := b2
  have c2 : S 14 = c := c2
  have d2 : S 15 = d := d2
  have e2 : S 16 = e := e2
  have f2 : S 17 = f := f2
  have hm : (smS S).toNat = a + 2 * b + 4 * c + 8 * d + 16 * e + 32 * f := by
    unfold smS
    omega
  funext r
  unfold sfm sfS
  rw [hm]
  by_cases q : r < 6
  · rcases (show r = 0 ∨ r = 1 ∨ r = 2 ∨ r = 3 ∨ r = 4 ∨ r = 5 by omega) with rfl | rfl | rfl | rfl | rfl | rfl
    · rw [Nat.testBit_eq_decide_div_mod_eq]
      refine decide_eq_decide.mpr ?_
      have : S (12 + 0) = a := a2
      omega
    · rw [Nat.testBit_eq_decide_div_mod_eq]
      refine decide_eq_decide.mpr ?_
      have : S (12 + 1) = b := b2
      omega
    · rw [Nat.testBit_eq_decide_div_mod_eq]
      refine decide_eq_decide.mpr ?_
      have : S (12 + 2) = c := c2
      omega
    · rw [Nat.testBit_eq_decide_div_mod_eq]
      refine decide_eq_decide.mpr ?_
      have : S (12 + 3) = d := d2
      omega
    · rw [Nat.testBit_eq_decide_div_mod_eq]
      refine decide_eq_decide.mpr ?_
      have : S (12 + 4) = e := e2
      omega
    · rw [Nat.testBit_eq_decide_div_mod_eq]
      refine decide_eq_decide.mpr ?_
      have : S (12 + 5) = f := f2
      omega
  · have hlt : a + 2 * b + 4 * c + 8 * d + 16 * e + 32 * f < 2 ^ r := by
      have : 2 ^ 6 ≤ 2 ^ r := Nat.pow_le_pow_right (by omega) (by omega)
      omega
    rw [Nat.testBit_lt_two_pow hlt]
    symm
    rw [decide_eq_false_iff_not]
    omega
/-- the class's lanes are the reference's -/
def FAg (S F G L Wd Sh : Nat → Int) : Prop := ∀ l, l < 16 → F l = rz S 18 l ∧ G l = rz S 28 l ∧ L l = lz S 1 48 l ∧ Wd l = lz S 180 38 l ∧ Sh l = lz S 1000 58 l
def FI (F G L Wd Sh : Nat → Int) : Prop := ∀ r : Nat, r < 6 → F r = r ∧ G r = r ∧ L r = 1 ∧ Wd r = 180 ∧ Sh r = 1000
theorem FAg.fi {S F G L Wd Sh : Nat → Int} (h : FAg S F G L Wd Sh) : FI F G L Wd Sh := by
  intro r hr
  have := h r (by omega)
  rw [rz_lo hr, rz_lo hr, lz_lo hr, lz_lo hr, lz_lo hr] at this
  exact this
theorem FAg.nv {S F G L Wd Sh : Nat → Int} (h : FAg S F G L Wd Sh) (hPV : PV S) : NV (6 + (S 68).toNat) F G L Wd Sh := by
  obtain ⟨n1, n2, n3, n4⟩ := hPV.nv
  refine ⟨n1, n2, fun l hl => ?_, h.fi⟩
  have a := h l (by omega)
  have b := n3 l hl
  rw [a.1, a.2.1, a.2.2.1, a.2.2.2.1, a.2.2.2.2]
  exact b
theorem FL.congr {nL : Nat} {fr to ln fr' to' ln' : Nat → Nat} {wd sh wd' sh' : Nat → Int} {sf : Nat → Bool} {su : Nat → Int} {T : Nat} {E nl : Nat → Int} (hn : nL ≤ 16) (h : FL nL fr to ln wd sh sf su T E nl) (hc : ∀ l, l < 16 → fr' l = fr l ∧ to' l = to l ∧ ln' l = ln l ∧ wd' l = wd l ∧ sh' l = sh l) : FL nL fr' to' ln' wd' sh' sf su T E nl := by
  obtain ⟨a1, a2, a3, a4, a5⟩ := h
  refine ⟨a1, fun e he hne => ?_, fun e he h6 hl => ?_, a4, fun χ hχ => ?_⟩
  · obtain ⟨c1, c2, c3, c4, c5⟩ := hc (e / 61) (by omega)
    rw [c1, c3, c5]
    exact a2 e he hne
  · obtain ⟨c1, c2, c3, c4, c5⟩ := hc (e / 61) (by omega)
    rw [c4]
    exact a3 e he h6 hl
  · rw [← a5 χ hχ]
    refine sg_congr (fun e he => ?_)
    obtain ⟨c1, c2, c3, c4, c5⟩ := hc (e / 61) (by omega)
    show E e * cfz fr' to' ln' χ e = E e * cfz fr to ln χ e
    unfold cfz
    rw [c1, c2, c3]
theorem FAg.fz {S F G L Wd Sh su : Nat → Int} {T : Nat} {E nl : Nat → Int} (h : FAg S F G L Wd Sh) (hPV : PV S) : FZ (6 + (S 68).toNat) F G L Wd Sh (smS S) su T E nl ↔ FS S su T E nl := by
  unfold FZ
  rw [sfm_smS hPV]
  have hs := hPV.2.2.1
  constructor
  · intro w
    exact FL.congr (by omega) w (fun l hl => by
      obtain ⟨a1, a2, a3, a4, a5⟩ := h l hl
      exact ⟨by rw [a1], by rw [a2], by rw [a3], by rw [a4], by rw [a5]⟩)
  · intro w
    exact FL.congr (by omega) w (fun l hl => by
      obtain ⟨a1, a2, a3, a4, a5⟩ := h l hl
      exact ⟨by rw [a1], by rw [a2], by rw [a3], by rw [a4], by rw [a5]⟩)
theorem suS_SU {S : Nat → Int} (h : PV S) : SU (smS S) (suS S) := by
  intro r hr
  rw [sfm_smS h]
  exact suS_b h r hr
section CL
variable {S F G L Wd Sh : Nat → Int} {T : Nat}
theorem sp_leadByS (hPV : PV S) (hA : FAg S F G L Wd Sh) (hT : T ≤ 60) {led : Int} {nl E La St WE WA : Nat → Int} {ws ww : Int} (hled : led = sg S 6 - sg nl 6) (hF : FS S (suS S) T E nl) {post : Int → (Int × (Nat → Int) × (Nat → Int) × (Nat → Int) × (Nat → Int) × (Nat → Int) × (Nat → Int) × Int × Int) → Prop}
    (hp : ∀ led nl E La St WE WA ws ww, led = sg S 6 - sg nl 6 → FS S (suS S) T E nl → MS S T (sg nl 6) → post led (led, nl, E, La, St, WE, WA, ws, ww)) : iv_X0_leadBy T (6 + S 68) F G Wd L Sh (smS S) (sg S 6) led nl E La St WE WA ws ww post := by
  have hn : (6 : Int) + S 68 = ((6 + (S 68).toNat : Nat) : Int) := by have := hPV.2.1; omega
  rw [hn]
  refine sp_leadBy (hA.nv hPV) (smS_b hPV) hT (suS_SU hPV) hPV.sum hled ((hA.fz hPV).mpr hF) (fun led nl E La St WE WA ws ww h1 h2 h3 => hp led nl E La St WE WA ws ww h1 ((hA.fz hPV).mp h2) ⟨⟨E, nl, (hA.fz hPV).mp h2, rfl⟩, fun E' nl' h' => h3 E' nl' ((hA.fz hPV).mpr h')⟩)
theorem sp_leadsAllByS (hPV : PV S) (hA : FAg S F G L Wd Sh) (hT : T ≤ 60) {led : Int} {nl E La St WE WA : Nat → Int} {ws ww : Int} (hled : led = sg S 6 - sg nl 6) (hF : FS S (suS S) T E nl) {post : Int → (Int × (Nat → Int) × (Nat → Int) × (Nat → Int) × (Nat → Int) × (Nat → Int) × (Nat → Int) × Int × Int) → Prop}
    (hp1 : ∀ led nl E La St WE WA ws ww, led = sg S 6 - sg nl 6 → FS S (suS S) T E nl → sg nl 6 = 0 → AZ S T → post 1 (led, nl, E, La, St, WE, WA, ws, ww)) (hp0 : ∀ led nl E La St WE WA ws ww, led = sg S 6 - sg nl 6 → FS S (suS S) T E nl → ¬ AZ S T → post 0 (led, nl, E, La, St, WE, WA, ws, ww)) : iv_X0_leadsAllBy T (6 + S 68) F G Wd L Sh (smS S) (sg S 6) led nl E La St WE WA ws ww post := by
  have hn : (6 : Int) + S 68 = ((6 + (S 68).toNat : Nat) : Int) := by have := hPV.2.1; omega
  rw [hn]
  refine sp_leadsAllBy (hA.nv hPV) (smS_b hPV) hT (suS_SU hPV) hPV.sum hled ((hA.fz hPV).mpr hF) (fun led nl E La St WE WA ws ww h1 h2 h3 => ?_)
  have h2' := (hA.fz hPV).mp h2
  have hm : MS S T (sg nl 6) := ⟨⟨E, nl, h2', rfl⟩, fun E' nl' h' => h3 E' nl' ((hA.fz hPV).mpr h')⟩
  by_cases q : sg nl 6 = 0
  · rw [if_pos q]; exact hp1 led nl E La St WE WA ws ww h1 h2' q (hm.zero.mp q)
  · rw [if_neg q]; exact hp0 led nl E La St WE WA ws ww h1 h2' (fun z => q (hm.zero.mpr z))
end CL
/-- the class's plan is the reference's state -/
def PQ (pe : Nat → Int) (m P : Int) (qf qt qw ql qs : Nat → Int) (S : Nat → Int) : Prop := (∀ r, r < 6 → pe r = S r) ∧ m = smS S ∧ P = S 68 ∧ ∀ p, p < 10 → qf p = S (18 + p) ∧ qt p = S (28 + p) ∧ qw p = S (38 + p) ∧ ql p = S (48 + p) ∧ qs p = S (58 + p)
theorem cpy_ag {q f : Nat → Int} {S : Nat → Int} {o : Nat} {g : Nat → Int} (hq : ∀ p, p < 10 → q p = S (o + p)) (hf : ∀ r, r < 6 → f r = g r) (hg : ∀ p, g (6 + p) = S (o + p)) : ∀ l, l < 16 → va_cpy q f 0 6 10 l = g l := by
  intro l hl
  by_cases z : l < 6
  · rw [pk_cpy_out (Or.inl z)]; exact hf l z
  · rw [pk_cpy_in (by omega) (by omega), Nat.zero_add, hq (l - 6) (by omega), ← hg, show 6 + (l - 6) = l by omega]
theorem PQ.ag {pe : Nat → Int} {m P : Int} {qf qt qw ql qs S F G L Wd Sh : Nat → Int} (h : PQ pe m P qf qt qw ql qs S) (hf : FI F G L Wd Sh) : FAg S (va_cpy qf F 0 6 10) (va_cpy qt G 0 6 10) (va_cpy ql L 0 6 10) (va_cpy qw Wd 0 6 10) (va_cpy qs Sh 0 6 10) := by
  obtain ⟨h1, h2, h3, h4⟩ := h
  intro l hl
  exact ⟨cpy_ag (g := rz S 18) (fun p hp => (h4 p hp).1) (fun r hr => by rw [rz_lo hr]; exact (hf r hr).1) (fun p => rz_hi) l hl, cpy_ag (g := rz S 28) (fun p hp => (h4 p hp).2.1) (fun r hr => by rw [rz_lo hr]; exact (hf r hr).2.1) (fun p => rz_hi) l hl, cpy_ag (g := lz S 1 48) (fun p hp => (h4 p hp).2.2.2.1) (fun r hr => by rw [lz_lo hr]; exact (hf r hr).2.2.1) (fun p => lz_hi) l hl, cpy_ag (g := lz S 180 38) (fun p hp => (h4 p hp).2.2.1) (fun r hr => by rw [lz_lo hr]; exact (hf r hr).2.2.2.1) (fun p => lz_hi) l hl, cpy_ag (g := lz S 1000 58) (fun p hp => (h4 p hp).2.2.2.2) (fun r hr => by rw [lz_lo hr]; exact (hf r hr).2.2.2.2) (fun p => lz_hi) l hl⟩
theorem FS.zero {S : Nat → Int} {T : Nat} {E nl : Nat → Int} (hPV : PV S) (hE : ∀ e, e < 976 → E e = 0) (hn : ∀ r, r < 6 → nl r = suS S r) : FS S (suS S) T E nl :=
  FL.zero hE hn (fun r hr => (suS_b hPV r hr).1) (fun l hl => by have := hPV.nv.2.2.1 l hl; omega)
/-- begin, over the reference's state -/
theorem sp_beginS {S pe : Nat → Int} {m P : Int} {qf qt qw ql qs : Nat → Int} (hPV : PV S) (hq : PQ pe m P qf qt qw ql qs S) {f_lanes : Int} {F G Wd L Sh : Nat → Int} {f_safeRooms f_people f_led : Int} {f_notLed f_entering : Nat → Int} (hf : FI F G L Wd Sh) {post : (Int × (Nat → Int) × (Nat → Int) × (Nat → Int) × (Nat → Int) × (Nat → Int) × Int × Int × Int × (Nat → Int) × (Nat → Int)) → Prop}
    (hp : ∀ F G Wd L Sh nl E led, FAg S F G L Wd Sh → led = sg S 6 - sg nl 6 → (∀ e, e < 976 → E e = 0) → (∀ r, r < 6 → nl r = suS S r) → post (6 + S 68, F, G, Wd, L, Sh, smS S, sg S 6, led, nl, E)) : iv_X0_begin f_lanes F G Wd L Sh f_safeRooms f_people f_led f_notLed f_entering pe m P qf qt qw ql qs post := by
  have hq2 := hq
  obtain ⟨h1, h2, h3, h4⟩ := hq2
  subst h2 h3
  refine sp_begin (smS_b hPV) (fun nl hn => ?_)
  have e1 : sg pe 6 = sg S 6 := sg_congr h1
  rw [e1]
  refine hp _ _ _ _ _ _ _ _ (hq.ag hf) rfl (fun e he => ?_) (fun r hr => ?_)
  · show (if e < 976 then (0 : Int) else f_entering e) = 0
    rw [if_pos he]
  · rw [hn r hr, sfm_smS hPV]
    unfold suS
    by_cases q : sfS S r = true
    · rw [if_pos q, if_pos q]
    · rw [if_neg q, if_neg q]; exact h1 r hr
