/-! traceWay and leadAlongWay: a way is traced, and those who can go along it -/
def PS (nL : Nat) (F G L Wd Sh : Nat → Int) (sf : Nat → Bool) (goal : Int) (E : Nat → Int) (e : Nat) (ah : Int) (r t r' t' : Nat) (w : Int) : Prop :=
  (ah = 1 ∧ ∃ l : Nat, l < nL ∧ e = l * 61 + t ∧ t < 61 ∧ F l = r ∧ G l = r' ∧ t' = t + (L l).toNat ∧ sf r = false ∧ (t : Int) < Sh l ∧ t + L l ≤ goal ∧ w ≤ Wd l - E e) ∨
  (ah = 0 ∧ ∃ l : Nat, l < nL ∧ e = l * 61 + t' ∧ t' < 61 ∧ G l = r ∧ F l = r' ∧ t = t' + (L l).toNat ∧ w ≤ E e ∧ 0 < E e)
theorem PS.mono {nL : Nat} {F G L Wd Sh : Nat → Int} {sf : Nat → Bool} {goal : Int} {E : Nat → Int} {e : Nat} {ah : Int} {r t r' t' : Nat} {w w' : Int} (h : PS nL F G L Wd Sh sf goal E e ah r t r' t' w) (hw : w' ≤ w) : PS nL F G L Wd Sh sf goal E e ah r t r' t' w' := by
  rcases h with ⟨h0, l, h1, h2, h3, h4, h5, h6, h7, h8, h9, h10⟩ | ⟨h0, l, h1, h2, h3, h4, h5, h6, h7, h8⟩
  · exact Or.inl ⟨h0, l, h1, h2, h3, h4, h5, h6, h7, h8, h9, by omega⟩
  · exact Or.inr ⟨h0, l, h1, h2, h3, h4, h5, h6, by omega, h8⟩
def TP (nL : Nat) (F G L Wd Sh : Nat → Int) (sf : Nat → Bool) (goal : Int) (E nl : Nat → Int) (rk : Nat → Nat → Nat) (r0 s : Nat) (ur ut : Nat → Nat) (WE WA : Nat → Int) (w : Int) : Prop :=
  ur 0 = r0 ∧ ut 0 = 0 ∧ 1 ≤ w ∧ w ≤ nl r0 ∧ ∀ n, n < s → (0 ≤ WE n ∧ WE n < 976) ∧ PS nL F G L Wd Sh sf goal E (WE n).toNat (WA n) (ur n) (ut n) (ur (n + 1)) (ut (n + 1)) w ∧ rk (ur (n + 1)) (ut (n + 1)) < rk (ur n) (ut n)
theorem TP.step {nL : Nat} {F G L Wd Sh : Nat → Int} {sf : Nat → Bool} {goal : Int} {E nl : Nat → Int} {rk : Nat → Nat → Nat} {r0 s : Nat} {ur ut : Nat → Nat} {WE WA : Nat → Int} {w : Int} (h : TP nL F G L Wd Sh sf goal E nl rk r0 s ur ut WE WA w) {e a' t' : Nat} {ah f : Int} (he : e < 976)
    (hps : PS nL F G L Wd Sh sf goal E e ah (ur s) (ut s) a' t' f) (hf : 1 ≤ f) (hrk : rk a' t' < rk (ur s) (ut s)) :
    TP nL F G L Wd Sh sf goal E nl rk r0 (s + 1) (fun n => if n = s + 1 then a' else ur n) (fun n => if n = s + 1 then t' else ut n) (uz WE s e) (uz WA s ah) (if f < w then f else w) := by
  obtain ⟨h1, h2, h3, h4, h5⟩ := h
  have hw1 : 1 ≤ (if f < w then f else w) := by split <;> omega
  have hw2 : (if f < w then f else w) ≤ w := by split <;> omega
  have hw3 : (if f < w then f else w) ≤ f := by split <;> omega
  refine ⟨?_, ?_, hw1, Int.le_trans hw2 h4, fun n hn => ?_⟩
  · show (if 0 = s + 1 then a' else ur 0) = r0
    rw [if_neg (by omega)]; exact h1
  · show (if 0 = s + 1 then t' else ut 0) = 0
    rw [if_neg (by omega)]; exact h2
  · show (0 ≤ uz WE s e n ∧ uz WE s e n < 976) ∧ PS nL F G L Wd Sh sf goal E (uz WE s e n).toNat (uz WA s ah n) (if n = s + 1 then a' else ur n) (if n = s + 1 then t' else ut n) (if n + 1 = s + 1 then a' else ur (n + 1)) (if n + 1 = s + 1 then t' else ut (n + 1)) _ ∧ rk (if n + 1 = s + 1 then a' else ur (n + 1)) (if n + 1 = s + 1 then t' else ut (n + 1)) < rk (if n = s + 1 then a' else ur n) (if n = s + 1 then t' else ut n)
    rw [if_neg (by omega : ¬ n = s + 1), if_neg (by omega : ¬ n = s + 1)]
    by_cases q : n = s
    · subst q
      rw [uz_s, uz_s, if_pos rfl, if_pos rfl, Int.toNat_natCast]
      exact ⟨by omega, hps.mono hw3, hrk⟩
    · rw [uz_n q, uz_n q, if_neg (by omega), if_neg (by omega)]
      have := h5 n (by omega)
      exact ⟨this.1, this.2.1.mono hw2, this.2.2⟩
/-- within the bounds: isWithin says so -/
theorem tr_w1 {a b c : Int} (ha : sm a) (hb : sm b) (hc : sm c) (h1 : b ≤ a) (h2 : a ≤ c) {post : Int → Unit → Prop} (hp : post 1 ()) : iv_X4_isWithin a b c post := by
  rw [iv_X4_isWithin]
  exact ⟨⟨ha, hb⟩, fun z => absurd z (by omega), fun z => ⟨⟨hc, ha⟩, fun z2 => absurd z2 (by omega), fun z2 => hp⟩⟩
section Way
variable {nL : Nat} {F G L Wd Sh : Nat → Int} {m : Int} {goal : Int} {E : Nat → Int}
theorem tr_L (hNV : NV nL F G L Wd Sh) (hm0 : 0 ≤ m ∧ m < 64) (hg0 : 0 ≤ goal) (hg : goal ≤ 60) (hEB : ∀ e, e < 976 → 0 ≤ E e ∧ E e ≤ 1000) (hW : ∀ l t : Nat, l < 6 → t < 61 → E (l * 61 + t) ≤ 179) {nl La St : Nat → Int} {rk : Nat → Nat → Nat} (hS : SR nL F G L Wd Sh (sfm m) goal E La St rk) {r0 : Nat} (hnl : nl r0 ≤ 1000)
    {K : (Nat → Int) → (Nat → Int) → Int → Int → Prop} {post : ((Nat → Int) × (Nat → Int) × Int × Int) → Prop} (hK : ∀ (N : Nat) (ur ut : Nat → Nat) (WE WA : Nat → Int) (w : Int), N ≤ 366 → TP nL F G L Wd Sh (sfm m) goal E nl rk r0 N ur ut WE WA w → sfm m (ur N) = true → K WE WA N w) :
    ∀ (d a t s : Nat) (ur ut : Nat → Nat) (WE WA : Nat → Int) (w : Int), TP nL F G L Wd Sh (sfm m) goal E nl rk r0 s ur ut WE WA w → ur s = a → ut s = t → a < 6 → (sfm m a = true ∨ (t : Int) ≤ La a) → rk a t + s ≤ 366 → rk a t ≤ d → iv_X0_traceWay_L19 K post nL F G Wd L m E St (d + 1) a t WE WA s w
  | d, a, t, s, ur, ut, WE, WA, w, hT, hua, hut, ha, hre, hrs, hrd => by
    have hn := hNV.2.1
    have hz : sm 0 := smz (by omega) (by omega)
    have hT2 := hT
    obtain ⟨t1, t2, t3, t4, t5⟩ := hT2
    rw [iv_X0_traceWay_L19]
    have hsafe : rk a t = 0 → sfm m a = true := by
      intro z
      rcases hre with q | q
      · exact q
      · by_cases q2 : sfm m a = true
        · exact q2
        · rcases (hS.2.2 a t ha (by simpa using q2) q).1 with ⟨l, _, _, _, _, _, _, h9⟩ | ⟨l, _, _, _, _, _, h9⟩ <;> omega
    refine ⟨⟨smz (by omega) (by omega), smz (by omega) (by omega)⟩, fun c => hK s ur ut WE WA w (by omega) hT (by rw [hua]; exact hsafe (by omega)), fun c => sp_isIn hm0 ha ?_⟩
    by_cases hs : sfm m a = true
    · rw [if_pos hs]
      exact ⟨⟨smz (by omega) (by omega), hz⟩, fun _ => hK s ur ut WE WA w (by omega) hT (by rw [hua]; exact hs), fun c2 => absurd c2 (by decide)⟩
    · have hs' : sfm m a = false := by simpa using hs
      rw [if_neg hs]
      refine ⟨⟨smz (by omega) (by omega), hz⟩, fun c2 => absurd rfl c2, fun _ => ?_⟩
      have hta : (t : Int) ≤ La a := by
        rcases hre with q | q
        · exact absurd q hs
        · exact q
      have hla := hS.1 a ha
      have hst := (hS.2.2 a t ha hs' hta).1
      have hi : ((a : Int) * 61 + (t : Int)).toNat = a * 61 + t := by omega
      rw [hi]
      refine ⟨by omega, fun x4 h4 => ?_⟩
      rw [← h4] at hst
      match d, hrd with
      | 0, hrd => exact absurd (hsafe (by omega)) hs
      | d + 1, hrd =>
      rcases hst with ⟨l, p1, p2, p3, p4, p5, p6, p7⟩ | ⟨l, p1, p2, p3, p4, p5, p6, p7⟩
      · -- ahead
        have hvl := hNV.2.2.1 l p1
        have hlg := hS.1 (G l).toNat (by omega)
        refine ⟨⟨smz (by omega) (by omega), hz⟩, fun c2 => by omega, fun c2 => ⟨smz (by omega) (by omega), fun x6 h6 => ?_⟩⟩
        rw [if_pos (by omega)] at h6
        have hx6 : x6 = l := by omega
        subst hx6
        refine tr_w1 (smz (by omega) (by omega)) hz (smz (by omega) (by omega)) (by omega) (by omega) ⟨⟨smz (by omega) (by omega), hz⟩, fun _ => ⟨by omega, fun x3 h3 => ?_⟩, fun c3 => absurd c3 (by decide)⟩
        rw [Int.toNat_natCast] at h3
        have hx3 : x3 = ((t + (L l).toNat : Nat) : Int) := by omega
        subst hx3
        refine tr_w1 (smz (by omega) (by omega)) hz (smz (by omega) (by omega)) (by omega) (by omega) ⟨⟨smz (by omega) (by omega), hz⟩, fun c3 => absurd c3 (by decide), fun _ => ?_⟩
        refine tr_w1 (smz (by omega) (by omega)) hz (smz (by omega) (by omega)) (by omega) (by omega) ⟨⟨smz (by omega) (by omega), hz⟩, fun _ => ⟨by omega, fun x2 h2 x8 h8 => ?_⟩, fun c3 => absurd c3 (by decide)⟩
        have hx8 : x8 = ((l * 61 + t : Nat) : Int) := by omega
        subst hx8
        simp only [Int.toNat_natCast] at h2 ⊢
        have heb := hEB (l * 61 + t) (by omega)
        have hfree : 1 ≤ Wd l - E (l * 61 + t) := by
          by_cases q : 6 ≤ l
          · have := p6 q; omega
          · have w1 := hW l t (by omega) (by omega)
            have w2 := (hNV.2.2.2 l (by omega)).2.2.2.1
            omega
        refine ⟨by omega, by omega, ⟨smz (by omega) (by omega), smz (by omega) (by omega)⟩, by omega, by omega, ?_⟩
        obtain ⟨b, hb⟩ : ∃ b : Nat, G l = b := ⟨(G l).toNat, by omega⟩
        rw [hb] at h2
        subst h2
        rw [hb, Int.toNat_natCast] at p5 p7 hlg
        have hs1 : ((s : Int) + 1) = ((s + 1 : Nat) : Int) := by omega
        rw [hs1]
        have hstep := hT.step (e := l * 61 + t) (a' := b) (t' := t + (L l).toNat) (ah := 1) (f := Wd l - E (l * 61 + t)) (by omega) (Or.inl ⟨rfl, l, p1, by rw [hut], by omega, by rw [hua]; exact p3, hb, by rw [hut], by rw [hua]; exact hs', by rw [hut]; exact p4, by rw [hut]; omega, Int.le_refl _⟩) hfree (by rw [hua, hut]; exact p7)
        refine tr_L hNV hm0 hg0 hg hEB hW hS hnl hK d b (t + (L l).toNat) (s + 1) _ _ _ _ _ hstep ?_ ?_ (by omega) (Or.inr (by omega)) (by omega) (by omega)
        · show (if s + 1 = s + 1 then b else _) = b
          rw [if_pos rfl]
        · show (if s + 1 = s + 1 then t + (L l).toNat else _) = t + (L l).toNat
          rw [if_pos rfl]
      · -- taken back
        have hvl := hNV.2.2.1 l p1
        have hlg := hS.1 (F l).toNat (by omega)
        refine ⟨⟨smz (by omega) (by omega), hz⟩, fun c2 => ⟨smz (by omega) (by omega), fun x6 h6 => ?_⟩, fun c2 => by omega⟩
        rw [if_neg (by omega)] at h6
        have hx6 : x6 = l := by omega
        subst hx6
        refine tr_w1 (smz (by omega) (by omega)) hz (smz (by omega) (by omega)) (by omega) (by omega) ⟨⟨smz (by omega) (by omega), hz⟩, fun _ => ⟨by omega, fun x7 h7 => ?_⟩, fun c3 => absurd c3 (by decide)⟩
        rw [Int.toNat_natCast] at h7
        have hx7 : x7 = ((t - (L l).toNat : Nat) : Int) := by omega
        subst hx7
        refine tr_w1 (smz (by omega) (by omega)) hz (smz (by omega) (by omega)) (by omega) (by omega) ⟨⟨smz (by omega) (by omega), hz⟩, fun c3 => absurd c3 (by decide), fun _ => ?_⟩
        refine tr_w1 (smz (by omega) (by omega)) hz (smz (by omega) (by omega)) (by omega) (by omega) ⟨⟨smz (by omega) (by omega), hz⟩, fun _ => ⟨by omega, fun x2 h2 x8 h8 => ?_⟩, fun c3 => absurd c3 (by decide)⟩
        have hx8 : x8 = ((l * 61 + (t - (L l).toNat) : Nat) : Int) := by omega
        subst hx8
        simp only [Int.toNat_natCast] at h2 ⊢
        have heb := hEB (l * 61 + (t - (L l).toNat)) (by omega)
        refine ⟨by omega, ⟨smz (by omega) (by omega), smz (by omega) (by omega)⟩, by omega, by omega, ?_⟩
        obtain ⟨b, hb⟩ : ∃ b : Nat, F l = b := ⟨(F l).toNat, by omega⟩
        rw [hb] at h2
        subst h2
        rw [hb, Int.toNat_natCast] at p6 p7 hlg
        have hs1 : ((s : Int) + 1) = ((s + 1 : Nat) : Int) := by omega
        rw [hs1]
        have hstep := hT.step (e := l * 61 + (t - (L l).toNat)) (a' := b) (t' := t - (L l).toNat) (ah := 0) (f := E (l * 61 + (t - (L l).toNat))) (by omega) (Or.inr ⟨rfl, l, p1, rfl, by omega, by rw [hua]; exact p3, hb, by rw [hut]; omega, Int.le_refl _, p5⟩) (by omega) (by rw [hua, hut]; exact p7)
        refine tr_L hNV hm0 hg0 hg hEB hW hS hnl hK d b (t - (L l).toNat) (s + 1) _ _ _ _ _ hstep ?_ ?_ (by omega) (Or.inr (by omega)) (by omega) (by omega)
        · show (if s + 1 = s + 1 then b else _) = b
          rw [if_pos rfl]
        · show (if s + 1 = s + 1 then t - (L l).toNat else _) = t - (L l).toNat
          rw [if_pos rfl]
theorem sp_trace (hNV : NV nL F G L Wd Sh) (hm0 : 0 ≤ m ∧ m < 64) (hg0 : 0 ≤ goal) (hg : goal ≤ 60) (hEB : ∀ e, e < 976 → 0 ≤ E e ∧ E e ≤ 1000) (hW : ∀ l t : Nat, l < 6 → t < 61 → E (l * 61 + t) ≤ 179) {nl La St WE0 WA0 : Nat → Int} {s0 w0 : Int} {rk : Nat → Nat → Nat} (hS : SR nL F G L Wd Sh (sfm m) goal E La St rk) {r0 : Nat} (hr : r0 < 6) (hla : 0 ≤ La r0) (hn0 : 0 < nl r0) (hnl : nl r0 ≤ 1000)
    {post : ((Nat → Int) × (Nat → Int) × Int × Int) → Prop} (hp : ∀ (N : Nat) (ur ut : Nat → Nat) (WE WA : Nat → Int) (w : Int), N ≤ 366 → TP nL F G L Wd Sh (sfm m) goal E nl rk r0 N ur ut WE WA w → sfm m (ur N) = true → post (WE, WA, N, w)) : iv_X0_traceWay r0 nL F G Wd L m nl E St WE0 WA0 s0 w0 post := by
  rw [iv_X0_traceWay, Int.toNat_natCast]
  have hcl := cnt_le (sf := sfm m) (La := La) (fun r hr => by have := hS.1 r hr; omega)
  have hrk : rk r0 0 ≤ 366 := by
    by_cases q : sfm m r0 = true
    · rw [hS.2.1 r0 0 q]; omega
    · have := (hS.2.2 r0 0 hr (by simpa using q) (by omega)).2
      omega
  refine ⟨by omega, 367, ?_⟩
  exact tr_L hNV hm0 hg0 hg hEB hW hS hnl hp 366 r0 0 0 (fun _ => r0) (fun _ => 0) WE0 WA0 (nl r0) ⟨rfl, rfl, by omega, Int.le_refl _, fun n hn => absurd hn (Nat.not_lt_zero n)⟩ rfl rfl hr (Or.inr hla) (by omega) hrk
theorem sp_lead {nl WE WA : Nat → Int} {led w : Int} {N r0 : Nat} (hr : r0 < 6) (hN : N ≤ 366) (h1 : ∀ n, n < N → (0 ≤ WE n ∧ WE n < 976) ∧ (WA n = 1 ∨ WA n = 0)) {post : (Int × (Nat → Int) × (Nat → Int)) → Prop}
    (hp : post (led + w, uz nl r0 (nl r0 - w), ap E (fun n => (WE n).toNat) (fun n => if WA n = 0 then -w else w) N)) : iv_X0_leadAlongWay r0 led nl E WE WA N w post := by
  rw [iv_X0_leadAlongWay]
  have key : ∀ {K : (Nat → Int) → Prop}, K (ap E (fun n => (WE n).toNat) (fun n => if WA n = 0 then -w else w) N) → ∀ (d k : Nat), k + d = N → iv_X0_leadAlongWay_L2 K WE WA N w (d + 1) k (ap E (fun n => (WE n).toNat) (fun n => if WA n = 0 then -w else w) k) := by
    intro K hK d
    induction d with
    | zero =>
      intro k hk
      rw [iv_X0_leadAlongWay_L2]
      have : k = N := by omega
      subst this
      exact ⟨⟨smz (by omega) (by omega), smz (by omega) (by omega)⟩, fun _ => hK, fun c => absurd (Int.le_refl _) c⟩
    | succ d ih =>
      intro k hk
      rw [iv_X0_leadAlongWay_L2]
      simp only [Int.toNat_natCast]
      have hz : sm 0 := smz (by omega) (by omega)
      have w1 := h1 k (by omega)
      refine ⟨⟨smz (by omega) (by omega), smz (by omega) (by omega)⟩, fun c => by omega, fun c => ⟨by omega, w1.1, by omega, ⟨smz (by omega) (by omega), hz⟩, fun c2 => ⟨w1.1, fun x hx => ?_⟩, fun c2 => ⟨w1.1, fun x hx => ?_⟩⟩⟩
      · subst hx
        have := ih (k + 1) (by omega)
        rw [ap, if_pos c2] at this
        exact this
      · subst hx
        have := ih (k + 1) (by omega)
        rw [ap, if_neg c2] at this
        exact this
  refine ⟨N + 1, key ?_ N 0 (by omega)⟩
  simp only [Int.toNat_natCast]
  exact ⟨by omega, by omega, hp⟩
end Way
/-- the flow behind the way -/
theorem TP.flow {nL : Nat} {F G L Wd Sh : Nat → Int} {sf : Nat → Bool} {su : Nat → Int} {goal : Nat} {E nl : Nat → Int} (hNV : NV nL F G L Wd Sh) (h : FL nL (fun l => (F l).toNat) (fun l => (G l).toNat) (fun l => (L l).toNat) Wd Sh sf su goal E nl) {rk : Nat → Nat → Nat} {r0 N : Nat} {ur ut : Nat → Nat} {WE WA : Nat → Int} {w : Int} (hr : r0 < 6)
    (hT : TP nL F G L Wd Sh sf goal E nl rk r0 N ur ut WE WA w) (hend : sf (ur N) = true) :
    FL nL (fun l => (F l).toNat) (fun l => (G l).toNat) (fun l => (L l).toNat) Wd Sh sf su goal (ap E (fun n => (WE n).toNat) (fun n => if WA n = 0 then -w else w) N) (uz nl r0 (nl r0 - w)) := by
  obtain ⟨t1, t2, t3, t4, t5⟩ := hT
  have hdec : ∀ i j, i < j → j ≤ N → rk (ur j) (ut j) < rk (ur i) (ut i) := by
    intro i j
    induction j with
    | zero => intro h1; exact absurd h1 (Nat.not_lt_zero i)
    | succ j ih =>
      intro h1 h2
      have w1 := (t5 j (by omega)).2.2
      by_cases q : i = j
      · subst q; exact w1
      · exact Nat.lt_trans w1 (ih (by omega) (by omega))
  -- the greater rank of a step's two ends is its own
  have hmx : ∀ n, n < N → max (rk (F ((WE n).toNat / 61)).toNat ((WE n).toNat % 61)) (rk (G ((WE n).toNat / 61)).toNat ((WE n).toNat % 61 + (L ((WE n).toNat / 61)).toNat)) = rk (ur n) (ut n) := by
    intro n hn
    obtain ⟨w1, w2, w3⟩ := t5 n hn
    rcases w2 with ⟨h0, l, h1, h2, h3, h4, h5, h6, h7, h8, h9, h10⟩ | ⟨h0, l, h1, h2, h3, h4, h5, h6, h7, h8⟩
    · rw [h2, show (l * 61 + ut n) / 61 = l by omega, show (l * 61 + ut n) % 61 = ut n by omega, h4, h5, ← h6, Int.toNat_natCast, Int.toNat_natCast]
      omega
    · rw [h2, show (l * 61 + ut (n + 1)) / 61 = l by omega, show (l * 61 + ut (n + 1)) % 61 = ut (n + 1) by omega, h4, h5, ← h6, Int.toNat_natCast, Int.toNat_natCast]
      omega
  refine FL.aug h (fun n hn => ?_) (fun i j hi hj he => ?_) (fun n hn => ?_) hr (by omega) t4 (fun χ hχ => ?_)
  · have := (t5 n hn).1
    show (WE n).toNat < 976
    omega
  · have he : (WE i).toNat = (WE j).toNat := he
    have e1 := hmx i hi
    have e2 := hmx j hj
    rw [he, e2] at e1
    by_cases q : i < j
    · have := hdec i j q (by omega); omega
    · by_cases q2 : j < i
      · have := hdec j i q2 (by omega); omega
      · omega
  · obtain ⟨w1, w2, w3⟩ := t5 n hn
    have hb := h.1 (WE n).toNat (by omega)
    show 0 ≤ E (WE n).toNat + (if WA n = 0 then -w else w) ∧ (366 ≤ (WE n).toNat → E (WE n).toNat + (if WA n = 0 then -w else w) ≤ Wd ((WE n).toNat / 61)) ∧ ((WE n).toNat / 61 < nL ∧ sf (F ((WE n).toNat / 61)).toNat = false ∧ (((WE n).toNat % 61 : Nat) : Int) < Sh ((WE n).toNat / 61) ∧ (WE n).toNat % 61 + (L ((WE n).toNat / 61)).toNat ≤ goal)
    rcases w2 with ⟨h0, l, h1, h2, h3, h4, h5, h6, h7, h8, h9, h10⟩ | ⟨h0, l, h1, h2, h3, h4, h5, h6, h7, h8⟩
    · have hvl := hNV.2.2.1 l h1
      rw [h0, if_neg (by decide)]
      rw [h2] at hb h10 ⊢
      rw [show (l * 61 + ut n) / 61 = l by omega, show (l * 61 + ut n) % 61 = ut n by omega, h4, Int.toNat_natCast]
      exact ⟨by omega, fun _ => by omega, h1, h7, h8, by omega⟩
    · have hc := h.2.1 (WE n).toNat (by omega) (by omega)
      have hc3 := h.2.2.1 (WE n).toNat (by omega)
      rw [h0, if_pos rfl]
      refine ⟨by omega, fun z => ?_, hc.1, hc.2.1, hc.2.2.1, hc.2.2.2⟩
      have := hc3 z hc.1
      omega
  · have hterm : ∀ n, n < N → (if WA n = 0 then -w else w) * cfz (fun l => (F l).toNat) (fun l => (G l).toNat) (fun l => (L l).toNat) χ (WE n).toNat = w * (χ (ur n) (ut n) - χ (ur (n + 1)) (ut (n + 1))) := by
      intro n hn
      obtain ⟨w1, w2, w3⟩ := t5 n hn
      unfold cfz
      rcases w2 with ⟨h0, l, h1, h2, h3, h4, h5, h6, h7, h8, h9, h10⟩ | ⟨h0, l, h1, h2, h3, h4, h5, h6, h7, h8⟩
      · rw [h0, if_neg (by decide), h2, show (l * 61 + ut n) / 61 = l by omega, show (l * 61 + ut n) % 61 = ut n by omega]
        show w * (χ (F l).toNat (ut n) - χ (G l).toNat (ut n + (L l).toNat)) = _
        rw [h4, h5, ← h6, Int.toNat_natCast, Int.toNat_natCast]
      · rw [h0, if_pos rfl, h2, show (l * 61 + ut (n + 1)) / 61 = l by omega, show (l * 61 + ut (n + 1)) % 61 = ut (n + 1) by omega]
        show -w * (χ (F l).toNat (ut (n + 1)) - χ (G l).toNat (ut (n + 1) + (L l).toNat)) = _
        rw [h4, h5, ← h6, Int.toNat_natCast, Int.toNat_natCast]
        rw [Int.neg_mul, ← Int.mul_neg]
        congr 1
        omega
    rw [sg_congr hterm, sg_mulc, sg_tel (fun n => χ (ur n) (ut n)) N, t1, t2, hχ (ur N) (ut N) hend]
    congr 1
    omega
