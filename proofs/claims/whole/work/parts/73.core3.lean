/-! IMAGE, RESTORE, COUNT: both sides tell the same -/
theorem cp0 {f g : Nat → Int} {n l : Nat} (h : l < n) : va_cpy f g 0 0 n l = f l := by
  rw [pk_cpy_in (by omega) (by omega)]
  congr 1
  omega
section IMG
variable {pe ar : Nat → Int} {sr ps : Int} {qf qt qw ql qs S : Nat → Int}
theorem PI_cpy {pe' ar' qf' qt' qw' ql' qs' S' : Nat → Int} (h : PI pe ar sr ps qf qt qw ql qs S) (h3 : ∀ j, j < 69 → S' j = S j) : PI (va_cpy pe pe' 0 0 6) (va_cpy ar ar' 0 0 6) sr ps (va_cpy qf qf' 0 0 10) (va_cpy qt qt' 0 0 10) (va_cpy qw qw' 0 0 10) (va_cpy ql ql' 0 0 10) (va_cpy qs qs' 0 0 10) S' :=
  PI_cg h (fun r hr => ⟨cp0 hr, cp0 hr⟩) (fun p hp => ⟨cp0 hp, cp0 hp, cp0 hp, cp0 hp, cp0 hp⟩) h3
variable {x : Int} {ape aar : Nat → Int} {asr aps : Int} {af at9 aw al as9 : Nat → Int} {bpe bar : Nat → Int} {bsr bps : Int} {bf bt bw bl bs9 : Nat → Int} {I k : Nat → Int}
theorem img_loop {i : Nat} (hi : i < 2) {K : (Nat → Int) → Prop} (hK : ∀ J : Nat → Int, (∀ j, j < 69 → J (69 * i + j) = S j) → (∀ j, (j < 69 * i ∨ 69 * i + 69 ≤ j) → J j = I j) → K J) : ∀ (d j : Nat) (J : Nat → Int), j + d = 69 → (∀ q, q < j → J (69 * i + q) = S q) → (∀ q, (q < 69 * i ∨ 69 * i + 69 ≤ q) → J q = I q) → iv_X5_image_L14 K i S (d + 1) j J := by
  intro d
  induction d with
  | zero =>
    intro j J hj h1 h2
    rw [iv_X5_image_L14]
    exact ⟨⟨smz (by omega) (by omega), smz (by omega) (by omega)⟩, fun _ => hK J (fun q hq => h1 q (by omega)) h2, fun c => absurd (by omega) c⟩
  | succ d ih =>
    intro j J hj h1 h2
    rw [iv_X5_image_L14, Int.toNat_natCast, show ((69 : Int) * (i : Int) + (j : Int)).toNat = 69 * i + j by omega]
    refine ⟨⟨smz (by omega) (by omega), smz (by omega) (by omega)⟩, fun c => by omega, fun _ => ⟨by omega, by omega, fun y hy => ?_⟩⟩
    subst hy
    refine ih (j + 1) _ (by omega) (fun q hq => ?_) (fun q hq => ?_)
    · by_cases e : q = j
      · subst e; rw [uz_s]
      · rw [uz_n (by omega)]; exact h1 q (by omega)
    · rw [uz_n (by omega)]; exact h2 q hq
theorem zor_im : ∀ a : Int, (a = 0 ∨ a = 1) → ∀ b : Int, (b = 0 ∨ b = 1) → zor (a + 2 * b) (2 ^ 0) = 1 + 2 * b ∧ zor (a + 2 * b) (2 ^ 1) = a + 2 * 1 := by
  rintro a (rfl | rfl) b (rfl | rfl) <;> decide
theorem core_image {a1 : Int} (h : PI pe ar sr ps qf qt qw ql qs S) (hI : IG x ape aar asr aps af at9 aw al as9 bpe bar bsr bps bf bt bw bl bs9 I k) (s1 : sm a1) : ∃ (ρ : Int) (U : Int × (Nat → Int) × (Nat → Int) × Int × Int × (Nat → Int) × (Nat → Int) × (Nat → Int) × (Nat → Int) × (Nat → Int) × (Nat → Int) × (Nat → Int) × Int × Int × (Nat → Int) × (Nat → Int) × (Nat → Int) × (Nat → Int) × (Nat → Int)), iv_X4_image a1 x pe ar sr ps qf qt qw ql qs ape aar asr aps af at9 aw al as9 bpe bar bsr bps bf bt bw bl bs9 (fun r u => r = ρ ∧ u = U) ∧ iv_X5_image a1 S I k (fun r w => r = ρ ∧ IG U.1 U.2.1 U.2.2.1 U.2.2.2.1 U.2.2.2.2.1 U.2.2.2.2.2.1 U.2.2.2.2.2.2.1 U.2.2.2.2.2.2.2.1 U.2.2.2.2.2.2.2.2.1 U.2.2.2.2.2.2.2.2.2.1 U.2.2.2.2.2.2.2.2.2.2.1 U.2.2.2.2.2.2.2.2.2.2.2.1 U.2.2.2.2.2.2.2.2.2.2.2.2.1 U.2.2.2.2.2.2.2.2.2.2.2.2.2.1 U.2.2.2.2.2.2.2.2.2.2.2.2.2.2.1 U.2.2.2.2.2.2.2.2.2.2.2.2.2.2.2.1 U.2.2.2.2.2.2.2.2.2.2.2.2.2.2.2.2.1 U.2.2.2.2.2.2.2.2.2.2.2.2.2.2.2.2.2.1 U.2.2.2.2.2.2.2.2.2.2.2.2.2.2.2.2.2.2 w.1 w.2) := by
  have hI2 := hI
  obtain ⟨k0, k1, hx, h0, h1⟩ := hI2
  have hz := zor_im (k 0) k0 (k 1) k1
  by_cases c1 : 0 ≤ a1 ∧ a1 ≤ 1
  · by_cases c2 : a1 = 0
    · subst c2
      refine ⟨1, (zor x (2 ^ 0), va_cpy pe ape 0 0 6, va_cpy ar aar 0 0 6, sr, ps, va_cpy qf af 0 0 10, va_cpy qt at9 0 0 10, va_cpy qw aw 0 0 10, va_cpy ql al 0 0 10, va_cpy qs as9 0 0 10, bpe, bar, bsr, bps, bf, bt, bw, bl, bs9), ?_, ?_⟩
      · rw [iv_X4_image]
        refine wi1 s1 c1 (t1a ⟨s1, fun _ => ?_, fun z => absurd rfl z⟩)
        rw [iv_X2_copy]
        exact ⟨by omega, ⟨by unfold zn; omega, by unfold zn; decide⟩, rfl, rfl⟩
      · rw [iv_X5_image]
        refine in1 s1 c1 (t1a ⟨70, ?_⟩)
        refine img_loop (i := 0) (I := I) (by omega) (fun J j1 j2 => ⟨by omega, rfl, ?_⟩) 69 0 I (by omega) (fun q hq => absurd hq (Nat.not_lt_zero _)) (fun q _ => rfl)
        refine ⟨Or.inr (show uz k 0 1 0 = 1 from uz_s), by show uz k 0 1 1 = 0 ∨ uz k 0 1 1 = 1; rw [uz_n (by omega)]; exact k1, ?_, fun _ => PI_cpy h (fun j hj => by have := j1 j hj; rw [show 69 * 0 + j = j by omega] at this; exact this), fun z => ?_⟩
        · show zor x (2 ^ 0) = uz k 0 1 0 + 2 * uz k 0 1 1
          rw [uz_s, uz_n (by omega), hx]; exact hz.1
        · have z2 : uz k 0 1 1 = 1 := z
          rw [uz_n (by omega)] at z2
          refine PI_cg (h1 z2) (fun _ _ => ⟨rfl, rfl⟩) (fun _ _ => ⟨rfl, rfl, rfl, rfl, rfl⟩) (fun j hj => ?_)
          exact j2 (69 + j) (by omega)
    · have c3 : a1 = 1 := by omega
      subst c3
      refine ⟨1, (zor x (2 ^ 1), ape, aar, asr, aps, af, at9, aw, al, as9, va_cpy pe bpe 0 0 6, va_cpy ar bar 0 0 6, sr, ps, va_cpy qf bf 0 0 10, va_cpy qt bt 0 0 10, va_cpy qw bw 0 0 10, va_cpy ql bl 0 0 10, va_cpy qs bs9 0 0 10), ?_, ?_⟩
      · rw [iv_X4_image]
        refine wi1 s1 c1 (t1a ⟨s1, fun z => absurd z (by decide), fun _ => ?_⟩)
        rw [iv_X2_copy]
        exact ⟨by omega, ⟨by unfold zn; omega, by unfold zn; decide⟩, rfl, rfl⟩
      · rw [iv_X5_image]
        refine in1 s1 c1 (t1a ⟨70, ?_⟩)
        refine img_loop (i := 1) (I := I) (by omega) (fun J j1 j2 => ⟨by omega, rfl, ?_⟩) 69 0 I (by omega) (fun q hq => absurd hq (Nat.not_lt_zero _)) (fun q _ => rfl)
        refine ⟨by show uz k 1 1 0 = 0 ∨ uz k 1 1 0 = 1; rw [uz_n (by omega)]; exact k0, Or.inr (show uz k 1 1 1 = 1 from uz_s), ?_, fun z => ?_, fun _ => PI_cpy h (fun j hj => j1 j hj)⟩
        · show zor x (2 ^ 1) = uz k 1 1 0 + 2 * uz k 1 1 1
          rw [uz_s, uz_n (by omega), hx]; exact hz.2
        · have z2 : uz k 1 1 0 = 1 := z
          rw [uz_n (by omega)] at z2
          refine PI_cg (h0 z2) (fun _ _ => ⟨rfl, rfl⟩) (fun _ _ => ⟨rfl, rfl, rfl, rfl, rfl⟩) (fun j hj => ?_)
          exact j2 j (by omega)
  · refine ⟨-2, (x, ape, aar, asr, aps, af, at9, aw, al, as9, bpe, bar, bsr, bps, bf, bt, bw, bl, bs9), ?_, ?_⟩
    · rw [iv_X4_image]
      exact wi0 s1 c1 (t0a ⟨rfl, rfl⟩)
    · rw [iv_X5_image]
      exact in0 s1 c1 (t0a ⟨rfl, hI⟩)
theorem res_loop {i : Nat} (hi : i < 2) {K : (Nat → Int) → Prop} (hK : ∀ T : Nat → Int, (∀ j, j < 69 → T j = I (69 * i + j)) → K T) : ∀ (d j : Nat) (T : Nat → Int), j + d = 69 → (∀ q, q < j → T q = I (69 * i + q)) → iv_X5_restore_L26 K i I (d + 1) j T := by
  intro d
  induction d with
  | zero =>
    intro j T hj h1
    rw [iv_X5_restore_L26]
    exact ⟨⟨smz (by omega) (by omega), smz (by omega) (by omega)⟩, fun _ => hK T (fun q hq => h1 q (by omega)), fun c => absurd (by omega) c⟩
  | succ d ih =>
    intro j T hj h1
    rw [iv_X5_restore_L26, Int.toNat_natCast, show ((69 : Int) * (i : Int) + (j : Int)).toNat = 69 * i + j by omega]
    refine ⟨⟨smz (by omega) (by omega), smz (by omega) (by omega)⟩, fun c => by omega, fun _ => ⟨by omega, by omega, fun y hy => ?_⟩⟩
    subst hy
    refine ih (j + 1) _ (by omega) (fun q hq => ?_)
    by_cases e : q = j
    · subst e; rw [uz_s]
    · rw [uz_n e]; exact h1 q (by omega)
theorem bit_im : ∀ a : Int, (a = 0 ∨ a = 1) → ∀ b : Int, (b = 0 ∨ b = 1) → ((if (a + 2 * b).toNat.testBit 0 = true then (1 : Int) else 0) = a) ∧ ((if (a + 2 * b).toNat.testBit 1 = true then (1 : Int) else 0) = b) := by
  rintro a (rfl | rfl) b (rfl | rfl) <;> decide
theorem isin_v {x a v : Int} {post : Int → Unit → Prop} (hb : 0 ≤ x ∧ x < 64 ∧ 0 ≤ a ∧ a < 6) (hv : (if x.toNat.testBit a.toNat = true then (1 : Int) else 0) = v) (hp : post v ()) : iv_X4_isIn x a post := by
  rw [iv_X4_isIn, hv]
  exact ⟨hb, hp⟩
theorem core_restore {a1 : Int} (h : PI pe ar sr ps qf qt qw ql qs S) (hI : IG x ape aar asr aps af at9 aw al as9 bpe bar bsr bps bf bt bw bl bs9 I k) (s1 : sm a1) : ∃ (ρ : Int) (U : (Nat → Int) × (Nat → Int) × Int × Int × (Nat → Int) × (Nat → Int) × (Nat → Int) × (Nat → Int) × (Nat → Int)), iv_X4_restore a1 x pe ar sr ps qf qt qw ql qs ape aar asr aps af at9 aw al as9 bpe bar bsr bps bf bt bw bl bs9 (fun r u => r = ρ ∧ u = U) ∧ iv_X5_restore a1 S I k (fun r w => r = ρ ∧ PI U.1 U.2.1 U.2.2.1 U.2.2.2.1 U.2.2.2.2.1 U.2.2.2.2.2.1 U.2.2.2.2.2.2.1 U.2.2.2.2.2.2.2.1 U.2.2.2.2.2.2.2.2 w) := by
  have hI2 := hI
  obtain ⟨k0, k1, hx, h0, h1⟩ := hI2
  have hz := bit_im (k 0) k0 (k 1) k1
  rw [← hx] at hz
  by_cases c1 : 0 ≤ a1 ∧ a1 ≤ 1
  · by_cases c2 : a1 = 0
    · subst c2
      rcases k0 with e0 | e0
      · refine ⟨-3, (pe, ar, sr, ps, qf, qt, qw, ql, qs), ?_, ?_⟩
        · rw [iv_X4_restore]
          exact wi1 s1 c1 (t1a (isin_v (v := 0) (by omega) (hz.1.trans e0) (t0a ⟨rfl, rfl⟩)))
        · rw [iv_X5_restore, show k (0 : Int).toNat = 0 from e0]
          exact in1 s1 c1 (t1a ⟨by omega, t0a ⟨rfl, h⟩⟩)
      · refine ⟨1, (va_cpy ape pe 0 0 6, va_cpy aar ar 0 0 6, asr, aps, va_cpy af qf 0 0 10, va_cpy at9 qt 0 0 10, va_cpy aw qw 0 0 10, va_cpy al ql 0 0 10, va_cpy as9 qs 0 0 10), ?_, ?_⟩
        · rw [iv_X4_restore]
          refine wi1 s1 c1 (t1a (isin_v (v := 1) (by omega) (hz.1.trans e0) (t1a ⟨s1, fun _ => ?_, fun z => absurd rfl z⟩)))
          rw [iv_X2_copy]
          exact ⟨rfl, rfl⟩
        · rw [iv_X5_restore, show k (0 : Int).toNat = 1 from e0]
          refine in1 s1 c1 (t1a ⟨by omega, t1a ⟨70, res_loop (i := 0) (I := I) (by omega) (fun T hT => ⟨rfl, PI_cpy (h0 e0) (fun j hj => ?_)⟩) 69 0 S (by omega) (fun q hq => absurd hq (Nat.not_lt_zero _))⟩⟩)
          have := hT j hj
          rw [show 69 * 0 + j = j by omega] at this
          exact this
    · have c3 : a1 = 1 := by omega
      subst c3
      rcases k1 with e0 | e0
      · refine ⟨-3, (pe, ar, sr, ps, qf, qt, qw, ql, qs), ?_, ?_⟩
        · rw [iv_X4_restore]
          exact wi1 s1 c1 (t1a (isin_v (v := 0) (by omega) (hz.2.trans e0) (t0a ⟨rfl, rfl⟩)))
        · rw [iv_X5_restore, show k (1 : Int).toNat = 0 from e0]
          exact in1 s1 c1 (t1a ⟨by omega, t0a ⟨rfl, h⟩⟩)
      · refine ⟨1, (va_cpy bpe pe 0 0 6, va_cpy bar ar 0 0 6, bsr, bps, va_cpy bf qf 0 0 10, va_cpy bt qt 0 0 10, va_cpy bw qw 0 0 10, va_cpy bl ql 0 0 10, va_cpy bs9 qs 0 0 10), ?_, ?_⟩
        · rw [iv_X4_restore]
          refine wi1 s1 c1 (t1a (isin_v (v := 1) (by omega) (hz.2.trans e0) (t1a ⟨s1, fun z => absurd z (by decide), fun _ => ?_⟩)))
          rw [iv_X2_copy]
          exact ⟨rfl, rfl⟩
        · rw [iv_X5_restore, show k (1 : Int).toNat = 1 from e0]
          exact in1 s1 c1 (t1a ⟨by omega, t1a ⟨70, res_loop (i := 1) (I := I) (by omega) (fun T hT => ⟨rfl, PI_cpy (h1 e0) (fun j hj => hT j hj)⟩) 69 0 S (by omega) (fun q hq => absurd hq (Nat.not_lt_zero _))⟩⟩)
  · refine ⟨-2, (pe, ar, sr, ps, qf, qt, qw, ql, qs), ?_, ?_⟩
    · rw [iv_X4_restore]
      exact wi0 s1 c1 (t0a ⟨rfl, rfl⟩)
    · rw [iv_X5_restore]
      exact in0 s1 c1 (t0a ⟨rfl, h⟩)
def esz (S : Nat → Int) (n : Nat) : Int := sg (fun p => if S (58 + p) = 1000 then 0 else 1) n
theorem sp_everShut (h : PI pe ar sr ps qf qt qw ql qs S) {post : Int → Unit → Prop} (hp : post (esz S (S 68).toNat) ()) : iv_X2_passagesEverShut ps qs post := by
  have hps : ps = S 68 := h.2.1.2.2.1
  have b0 := h.1.1.2.1
  have b1 := h.1.1.2.2.1
  rw [iv_X2_passagesEverShut]
  have key : ∀ (d j : Nat), j + d = (S 68).toNat → iv_X2_passagesEverShut_L4 (fun k1_13 => post k1_13 ()) ps qs (d + 1) (esz S j) j := by
    intro d
    induction d with
    | zero =>
      intro j hj
      rw [iv_X2_passagesEverShut_L4]
      have : j = (S 68).toNat := by omega
      subst this
      exact ⟨⟨smz (by omega) (by omega), smz (by omega) (by omega)⟩, fun _ => hp, fun c => absurd (by omega) c⟩
    | succ d ih =>
      intro j hj
      have v := h.1.1.2.2.2 j (by omega)
      have hi := ih (j + 1) (by omega)
      rw [show esz S (j + 1) = esz S j + (if S (58 + j) = 1000 then 0 else 1) from rfl] at hi
      rw [iv_X2_passagesEverShut_L4, Int.toNat_natCast, (h.2.1.2.2.2 j (by omega)).2.2.2.2]
      refine ⟨⟨smz (by omega) (by omega), smz (by omega) (by omega)⟩, fun c => by omega, fun _ => ⟨by omega, ⟨smz (by omega) (by omega), smz (by omega) (by omega)⟩, fun c y hy => ?_, fun c z hz y hy => ?_⟩⟩
      · subst hy
        rw [if_pos c, Int.add_zero] at hi
        exact hi
      · subst hz hy
        rw [if_neg c] at hi
        exact hi
  exact ⟨(S 68).toNat + 1, key (S 68).toNat 0 (by omega)⟩
theorem sp_shutOnes (h : PI pe ar sr ps qf qt qw ql qs S) {post : Int → Unit → Prop} (hp : post (esz S (S 68).toNat) ()) : iv_X5_shutOnes S post := by
  have b0 := h.1.1.2.1
  have b1 := h.1.1.2.2.1
  rw [iv_X5_shutOnes]
  have key : ∀ (d j : Nat), j + d = (S 68).toNat → iv_X5_shutOnes_L4 (fun k1_21 => post k1_21 ()) S (d + 1) (esz S j) j := by
    intro d
    induction d with
    | zero =>
      intro j hj
      rw [iv_X5_shutOnes_L4, iv_X5_many]
      have : j = (S 68).toNat := by omega
      subst this
      exact ⟨⟨smz (by omega) (by omega), smz (by omega) (by omega)⟩, fun _ => hp, fun c => absurd (by omega) c⟩
    | succ d ih =>
      intro j hj
      have v := h.1.1.2.2.2 j (by omega)
      have hi := ih (j + 1) (by omega)
      rw [show esz S (j + 1) = esz S j + (if S (58 + j) = 1000 then 0 else 1) from rfl] at hi
      rw [iv_X5_shutOnes_L4, iv_X5_many, show ((58 : Int) + (j : Int)).toNat = 58 + j by omega]
      refine ⟨⟨smz (by omega) (by omega), smz (by omega) (by omega)⟩, fun c => by omega, fun _ => ⟨by omega, ⟨smz (by omega) (by omega), smz (by omega) (by omega)⟩, fun c z hz y hy => ?_, fun c z hz y hy => ?_⟩⟩
      · subst hz hy
        rw [if_neg c] at hi
        exact hi
      · subst hz hy
        rw [if_pos c] at hi
        exact hi
  exact ⟨(S 68).toNat + 1, key (S 68).toNat 0 (by omega)⟩
theorem zor_add {v : Int} {n : Nat} (h : 0 ≤ v ∧ v < 2 ^ n) : zor v (2 ^ n) = v + 2 ^ n := by
  obtain ⟨m, rfl⟩ : ∃ m : Nat, v = m := ⟨v.toNat, by omega⟩
  have e : ((2 ^ n : Nat) : Int) = 2 ^ n := by norm_cast
  have hm : m < 2 ^ n := by omega
  unfold zor
  rw [← e, Int.toNat_natCast, Int.toNat_natCast, Nat.or_comm]
  have := Nat.two_pow_add_eq_or_of_lt hm 1
  rw [Nat.mul_one] at this
  rw [← this]
  omega
theorem sfS_iff {r : Nat} (hr : r < 6) : sfS S r = true ↔ S (12 + r) = 1 := by
  unfold sfS
  rw [decide_eq_true_eq]
  exact ⟨fun z => z.2, fun z => ⟨hr, z⟩⟩
theorem bs_sf (hPV : PV S) {n : Nat} (hn : n < 6) : bs (fun r => sfS S r = true) (n + 1) = bs (fun r => sfS S r = true) n + 2 ^ n * S (12 + n) := by
  have v := (hPV.1 n hn).2.2.2.2
  have hb := bs_b (fun r => sfS S r = true) n
  rw [bs]
  by_cases q : sfS S n = true
  · rw [if_pos q, zor_add hb, (sfS_iff hn).mp q, Int.mul_one]
  · rw [if_neg q]
    have : S (12 + n) = 0 := by
      rcases v with v | v
      · exact v
      · exact absurd ((sfS_iff hn).mpr v) q
    rw [this, Int.mul_zero, Int.add_zero]
theorem bs_smS (hPV : PV S) : bs (fun r => sfS S r = true) 6 = smS S := by
  rw [bs_sf hPV (by omega), bs_sf hPV (by omega), bs_sf hPV (by omega), bs_sf hPV (by omega), bs_sf hPV (by omega), bs_sf hPV (by omega), show bs (fun r => sfS S r = true) 0 = 0 from rfl]
  unfold smS
  show 0 + 2 ^ 0 * S 12 + 2 ^ 1 * S 13 + 2 ^ 2 * S 14 + 2 ^ 3 * S 15 + 2 ^ 4 * S 16 + 2 ^ 5 * S 17 = _
  omega
theorem sp_safeSet (hPV : PV S) {post : Int → Unit → Prop} (hp : post (smS S) ()) : iv_X5_safeSet S post := by
  rw [iv_X5_safeSet]
  have key : ∀ (d r : Nat), r + d = 6 → iv_X5_safeSet_L4 (fun k1_25 => post k1_25 ()) S (d + 1) (bs (fun r => sfS S r = true) r) r := by
    intro d
    induction d with
    | zero =>
      intro r hr
      rw [iv_X5_safeSet_L4]
      have : r = 6 := by omega
      subst this
      exact ⟨⟨smz (by omega) (by omega), smz (by omega) (by omega)⟩, fun _ => by rw [bs_smS hPV]; exact hp, fun c => absurd (by omega) c⟩
    | succ d ih =>
      intro r hr
      rw [iv_X5_safeSet_L4, Int.toNat_natCast]
      have hz := bs_zn (fun r => sfS S r = true) (n := r) (by omega)
      have hi := ih (r + 1) (by omega)
      rw [bs] at hi
      refine ⟨⟨smz (by omega) (by omega), smz (by omega) (by omega)⟩, fun c => by omega, fun _ => sp_isSafe (by omega) (sfb hPV (by omega)) ?_⟩
      by_cases q : sfS S r = true
      · rw [if_pos q] at hi
        rw [if_pos q]
        refine t1b ⟨by omega, ⟨hz, p2_zn (by omega)⟩, fun x hx y hy => ?_⟩
        subst hx hy
        exact hi
      · rw [if_neg q] at hi
        rw [if_neg q]
        refine t0b ⟨⟨hz, by unfold zn; omega⟩, fun x hx y hy => ?_⟩
        rw [zor_z hz.1] at hx
        subst hx hy
        exact hi
  exact ⟨7, key 6 0 (by omega)⟩
theorem core_count {a1 : Int} {ds mp : Nat → Int} {n m : Int} (h : PI pe ar sr ps qf qt qw ql qs S) (hI : IG x ape aar asr aps af at9 aw al as9 bpe bar bsr bps bf bt bw bl bs9 I k) (hP : PD ds n mp m) (s1 : sm a1) : ∃ ρ, iv_X4_count a1 x pe sr ps qs n (fun r u => r = ρ ∧ u = ()) ∧ iv_X5_count a1 S k m (fun r u => r = ρ ∧ u = ()) := by
  obtain ⟨k0, k1, hx, _, _⟩ := hI
  have hps : ps = S 68 := h.2.1.2.2.1
  have hsr : sr = smS S := h.2.1.2.1
  have e1 : sg pe 6 = sg S 6 := sg_congr h.2.1.1
  by_cases c0 : a1 = 0
  · subst c0
    refine ⟨sg S 6, ?_, ?_⟩
    · rw [iv_X4_count]
      exact ⟨s1, fun _ => sp_allPeople ⟨e1, rfl⟩, fun z => absurd z (by decide), fun z => absurd z (by decide), fun z => absurd z (by decide), fun z => absurd z (by decide), fun z => absurd z (by decide), fun z => absurd rfl z.1⟩
    · rw [iv_X5_count]
      exact ⟨s1, fun _ => sp_people ⟨rfl, rfl⟩, fun z => absurd z (by decide), fun z => absurd z (by decide), fun z => absurd z (by decide), fun z => absurd z (by decide), fun z => absurd z (by decide), fun z => absurd rfl z.1⟩
  by_cases c1 : a1 = 1
  · subst c1
    refine ⟨S 68, ?_, ?_⟩
    · rw [iv_X4_count]
      exact ⟨s1, fun z => absurd z (by decide), fun _ => ⟨hps, rfl⟩, fun z => absurd z (by decide), fun z => absurd z (by decide), fun z => absurd z (by decide), fun z => absurd z (by decide), fun z => absurd rfl z.2.1⟩
    · rw [iv_X5_count, iv_X5_many]
      exact ⟨s1, fun z => absurd z (by decide), fun _ => ⟨rfl, rfl⟩, fun z => absurd z (by decide), fun z => absurd z (by decide), fun z => absurd z (by decide), fun z => absurd z (by decide), fun z => absurd rfl z.2.1⟩
  by_cases c2 : a1 = 2
  · subst c2
    refine ⟨n, ?_, ?_⟩
    · rw [iv_X4_count]
      exact ⟨s1, fun z => absurd z (by decide), fun z => absurd z (by decide), fun _ => ⟨rfl, rfl⟩, fun z => absurd z (by decide), fun z => absurd z (by decide), fun z => absurd z (by decide), fun z => absurd rfl z.2.2.1⟩
    · rw [iv_X5_count]
      exact ⟨s1, fun z => absurd z (by decide), fun z => absurd z (by decide), fun _ => ⟨hP.1.symm, rfl⟩, fun z => absurd z (by decide), fun z => absurd z (by decide), fun z => absurd z (by decide), fun z => absurd rfl z.2.2.1⟩
  by_cases c3 : a1 = 3
  · subst c3
    refine ⟨esz S (S 68).toNat, ?_, ?_⟩
    · rw [iv_X4_count]
      exact ⟨s1, fun z => absurd z (by decide), fun z => absurd z (by decide), fun z => absurd z (by decide), fun _ => sp_everShut h ⟨rfl, rfl⟩, fun z => absurd z (by decide), fun z => absurd z (by decide), fun z => absurd rfl z.2.2.2.1⟩
    · rw [iv_X5_count]
      exact ⟨s1, fun z => absurd z (by decide), fun z => absurd z (by decide), fun z => absurd z (by decide), fun _ => sp_shutOnes h ⟨rfl, rfl⟩, fun z => absurd z (by decide), fun z => absurd z (by decide), fun z => absurd rfl z.2.2.2.1⟩
  by_cases c4 : a1 = 4
  · subst c4
    refine ⟨smS S, ?_, ?_⟩
    · rw [iv_X4_count]
      exact ⟨s1, fun z => absurd z (by decide), fun z => absurd z (by decide), fun z => absurd z (by decide), fun z => absurd z (by decide), fun _ => ⟨hsr, rfl⟩, fun z => absurd z (by decide), fun z => absurd rfl z.2.2.2.2.1⟩
    · rw [iv_X5_count]
      exact ⟨s1, fun z => absurd z (by decide), fun z => absurd z (by decide), fun z => absurd z (by decide), fun z => absurd z (by decide), fun _ => sp_safeSet h.1.1 ⟨rfl, rfl⟩, fun z => absurd z (by decide), fun z => absurd rfl z.2.2.2.2.1⟩
  by_cases c5 : a1 = 5
  · subst c5
    refine ⟨x, ?_, ?_⟩
    · rw [iv_X4_count]
      exact ⟨s1, fun z => absurd z (by decide), fun z => absurd z (by decide), fun z => absurd z (by decide), fun z => absurd z (by decide), fun z => absurd z (by decide), fun _ => ⟨rfl, rfl⟩, fun z => absurd rfl z.2.2.2.2.2⟩
    · rw [iv_X5_count]
      refine ⟨s1, fun z => absurd z (by decide), fun z => absurd z (by decide), fun z => absurd z (by decide), fun z => absurd z (by decide), fun z => absurd z (by decide), fun _ => ⟨⟨smz (by omega) (by omega), sm0⟩, fun c => ⟨⟨smz (by omega) (by omega), sm0⟩, fun d => ⟨by omega, rfl⟩, fun d => ⟨by omega, rfl⟩⟩, fun c => ⟨⟨smz (by omega) (by omega), sm0⟩, fun d => ⟨by omega, rfl⟩, fun d => ⟨by omega, rfl⟩⟩⟩, fun z => absurd rfl z.2.2.2.2.2⟩
  · refine ⟨-2, ?_, ?_⟩
    · rw [iv_X4_count]
      exact ⟨s1, fun z => absurd z c0, fun z => absurd z c1, fun z => absurd z c2, fun z => absurd z c3, fun z => absurd z c4, fun z => absurd z c5, fun _ => ⟨rfl, rfl⟩⟩
    · rw [iv_X5_count]
      exact ⟨s1, fun z => absurd z c0, fun z => absurd z c1, fun z => absurd z c2, fun z => absurd z c3, fun z => absurd z c4, fun z => absurd z c5, fun _ => ⟨rfl, rfl⟩⟩
end IMG
