/-! THE REFERENCE'S RUSH -/
def RR (mh mc : Nat → Int) (s : PS2) : Prop := (∀ r, r < 6 → mh r = s.1 r) ∧ ∀ i, i < 30 → mc i = s.2 i
theorem RR.upd {mh mc : Nat → Int} {s : PS2} (h : RR mh mc s) {r k : Nat} {y y' z z' : Int} (hy : y = y') (hz : z = z') : RR (uz mh r y) (uz mc k z) (uz s.1 r y', uz s.2 k z') := by
  obtain ⟨a, b⟩ := h
  subst hy hz
  refine ⟨fun q hq => ?_, fun q hq => ?_⟩
  · show uz _ _ _ _ = uz _ _ _ _
    by_cases e : q = r
    · subst e; rw [uz_s, uz_s]
    · rw [uz_n e, uz_n e]; exact a q hq
  · show uz _ _ _ _ = uz _ _ _ _
    by_cases e : q = k
    · subst e; rw [uz_s, uz_s]
    · rw [uz_n e, uz_n e]; exact b q hq
section RRU
variable {S : Nat → Int} {t : Nat} {s : PS2}
theorem sfb (hPV : PV S) {r : Nat} (hr : r < 6) : -1000 ≤ S (12 + r) ∧ S (12 + r) ≤ 1000 := by
  have := (hPV.1 r hr).2.2.2.2
  omega
theorem sp_isOpen (hPV : PV S) (ht : t ≤ 200) {p : Nat} (hp : (p : Int) < S 68) {post : Int → Unit → Prop} (h1 : (t : Int) < S (58 + p) → post 1 ()) (h0 : ¬ (t : Int) < S (58 + p) → post 0 ()) : iv_X5_isOpen p t S post := by
  have v := hPV.2.2.2 p hp
  have := hPV.2.2.1
  rw [iv_X5_isOpen, show ((58 : Int) + (p : Int)).toNat = 58 + p by omega]
  exact ⟨by omega, ⟨smz (by omega) (by omega), smz (by omega) (by omega)⟩, fun c => h0 (by omega), fun c => h1 (by omega)⟩
theorem sp_layFar (hPV : PV S) (ht : t ≤ 200) {f : Nat → Int} {post : (Nat → Int) → Prop} (hp : ∀ f, E6 f (farz S t) → post f) : iv_X5_layFar t S f post := by
  have h0 := hPV.2.1
  have h10 := hPV.2.2.1
  have k45 : ∀ {K : (Nat → Int) → Prop} {g : Nat → Int}, RI S g → (∀ f, E6 f (rr S t g (S 68).toNat) → K f) → ∀ (n k : Nat) (f : Nat → Int), k + n = (S 68).toNat → E6 f (rr S t g k) → iv_X5_layFar_L45 K t S (n + 1) k f := by
    intro K g hg hK n
    induction n with
    | zero =>
      intro k f hk hf
      rw [iv_X5_layFar_L45, iv_X5_many]
      have : k = (S 68).toNat := by omega
      subst this
      exact ⟨⟨smz (by omega) (by omega), smz (by omega) (by omega)⟩, fun _ => hK f hf, fun c => absurd (by omega) c⟩
    | succ n ih =>
      intro k f hk hf
      have hk2 : (k : Int) < S 68 := by omega
      have vv := hPV.2.2.2 k hk2
      rw [iv_X5_layFar_L45, iv_X5_many, show ((28 : Int) + (k : Int)).toNat = 28 + k by omega, show ((48 : Int) + (k : Int)).toNat = 48 + k by omega, show ((18 : Int) + (k : Int)).toNat = 18 + k by omega]
      have hfr : RI S f := by
        intro r hr
        rw [hf r hr]
        exact rr_ri hPV hg (by omega) r hr
      have b1 := hfr (S (28 + k)).toNat (by omega)
      have b2 := hfr (S (18 + k)).toNat (by omega)
      have hcg : E6 (rx S t f k) (rr S t g (k + 1)) := rx_congr hPV hk2 hf
      refine ⟨⟨smz (by omega) (by omega), smz (by omega) (by omega)⟩, fun c => by omega, fun _ => ⟨by omega, by omega, by omega, fun x hx => ⟨by omega, fun y hy => ?_⟩⟩⟩
      have hno : ¬ ((t : Int) < S (58 + k) ∧ sfS S (S (18 + k)).toNat = false ∧ f (S (28 + k)).toNat + S (48 + k) < f (S (18 + k)).toNat) → iv_X5_layFar_L45 K t S (n + 1) ((k : Int) + 1) (uz f y.toNat (f y.toNat)) := by
        intro hc
        rw [uz_id]
        have e : rx S t f k = f := by unfold rx; rw [if_neg hc]
        rw [e] at hcg
        exact ih (k + 1) f (by omega) hcg
      obtain ⟨rf, hrf⟩ : ∃ r : Nat, y = r := ⟨y.toNat, by omega⟩
      subst hrf
      have erf : (S (18 + k)).toNat = rf := by omega
      rw [erf] at hno b2
      simp only [Int.toNat_natCast] at hno ⊢
      refine sp_isOpen hPV ht hk2 (fun c => ⟨⟨sm1, sm0⟩, fun z => absurd z (by decide), fun _ => ?_⟩) (fun c => ⟨⟨sm0, sm0⟩, fun _ => ⟨by omega, by omega, fun z hz => ?_⟩, fun z => absurd rfl z⟩)
      · refine sp_isSafe (by omega) (sfb hPV (by omega)) ?_
        by_cases q : sfS S rf = true
        · rw [if_pos q]
          refine ⟨⟨sm1, sm0⟩, fun _ => ⟨by omega, by omega, fun z hz => ?_⟩, fun z => absurd z (by decide)⟩
          subst hz
          exact hno (fun z => by rw [q] at z; exact absurd z.2.1 (by decide))
        · rw [if_neg q]
          refine ⟨⟨sm0, sm0⟩, fun z => absurd rfl z, fun _ => ⟨by omega, ⟨smz (by omega) (by omega), smz (by omega) (by omega)⟩, fun c2 => ⟨by omega, by omega, fun z hz => ?_⟩, fun c2 => ⟨by omega, fun z hz => ?_⟩⟩⟩
          · subst hz
            exact hno (fun z => by omega)
          · subst hz
            have e : rx S t f k = uz f rf x := by
              unfold rx
              rw [erf, if_pos ⟨c, by simpa using q, by omega⟩, hx]
            rw [e] at hcg
            exact ih (k + 1) _ (by omega) hcg
      · subst hz
        exact hno (fun z => c z.1)
  have k37 : ∀ (n k : Nat) (f : Nat → Int), k + n = 6 → E6 f (itz S t k) → iv_X5_layFar_L37 (fun m_far_90 => post m_far_90) t S (n + 1) k f := by
    intro n
    induction n with
    | zero =>
      intro k f hk hf
      rw [iv_X5_layFar_L37]
      have : k = 6 := by omega
      subst this
      exact ⟨⟨smz (by omega) (by omega), smz (by omega) (by omega)⟩, fun _ => hp f hf, fun c => absurd (by omega) c⟩
    | succ n ih =>
      intro k f hk hf
      rw [iv_X5_layFar_L37]
      refine ⟨⟨smz (by omega) (by omega), smz (by omega) (by omega)⟩, fun c => by omega, fun _ => ⟨(S 68).toNat + 1, ?_⟩⟩
      refine k45 (itz_ri hPV k) (fun f hf x hx => ?_) (S 68).toNat 0 f (by omega) hf
      subst hx
      exact ih (k + 1) f (by omega) hf
  have k2 : ∀ (n k : Nat) (f : Nat → Int), k + n = 6 → (∀ r, r < k → f r = f0 S r) → iv_X5_layFar_L2 (fun m_far_19 => (∃ n_91, iv_X5_layFar_L37 (fun m_far_90 => post m_far_90) t S n_91 0 m_far_19)) S (n + 1) k f := by
    intro n
    induction n with
    | zero =>
      intro k f hk hf
      rw [iv_X5_layFar_L2]
      have : k = 6 := by omega
      subst this
      exact ⟨⟨smz (by omega) (by omega), smz (by omega) (by omega)⟩, fun _ => ⟨7, k37 6 0 f (by omega) hf⟩, fun c => absurd (by omega) c⟩
    | succ n ih =>
      intro k f hk hf
      rw [iv_X5_layFar_L2, Int.toNat_natCast]
      refine ⟨⟨smz (by omega) (by omega), smz (by omega) (by omega)⟩, fun c => by omega, fun _ => sp_isSafe (by omega) (sfb hPV (by omega)) ?_⟩
      have st : ∀ z : Int, z = f0 S k → ∀ r, r < k + 1 → uz f k z r = f0 S r := by
        intro z hz r hr
        by_cases e : r = k
        · subst e; rw [uz_s]; exact hz
        · rw [uz_n e]; exact hf r (by omega)
      by_cases q : sfS S k = true
      · rw [if_pos q]
        refine ⟨⟨sm1, sm0⟩, fun z => absurd z (by decide), fun _ => ⟨by omega, fun x hx => ?_⟩⟩
        subst hx
        exact ih (k + 1) _ (by omega) (st 0 (by unfold f0; rw [if_pos q]))
      · rw [if_neg q]
        refine ⟨⟨sm0, sm0⟩, fun _ => ⟨by omega, fun x hx => ?_⟩, fun z => absurd rfl z⟩
        subst hx
        exact ih (k + 1) _ (by omega) (st 1000 (by unfold f0; rw [if_neg q]))
  rw [iv_X5_layFar]
  exact ⟨7, k2 6 0 f (by omega) (fun r hr => absurd hr (Nat.not_lt_zero _))⟩
theorem sp_rushBy (hPV : PV S) (ht : t ≤ 200) {f : Nat → Int} (hf : E6 f (farz S t)) {r : Nat} (hr : r < 6) (hs : sfS S r = false) {post : Int → Unit → Prop} (hp : ∀ v, v = fpz S t r ∨ (v = -6 ∧ fpz S t r = -1) → post v ()) : iv_X5_rushBy r t S f post := by
  have h0 := hPV.2.1
  have h10 := hPV.2.2.1
  obtain ⟨hR, hA, hST⟩ := far_ok hPV t
  let own : Nat → Int := fun p => farz S t (S (28 + p)).toNat + S (48 + p)
  let opn : Nat → Prop := fun p => S (18 + p) = r ∧ (t : Int) < S (58 + p)
  have hown : ∀ p : Nat, (p : Int) < S 68 → 0 ≤ own p ∧ own p ≤ 1004 := by
    intro p hp
    have v := hPV.2.2.2 p hp
    have := hR (S (28 + p)).toNat (by omega)
    show 0 ≤ farz S t (S (28 + p)).toNat + S (48 + p) ∧ farz S t (S (28 + p)).toNat + S (48 + p) ≤ 1004
    omega
  have hcF : ∀ p, cF S t r p ↔ (opn p ∧ own p = farz S t r ∧ farz S t r < 1000) := by
    intro p
    exact ⟨fun z => ⟨⟨z.1, z.2.1⟩, z.2.2.2⟩, fun z => ⟨z.1.1, z.1.2, hs, z.2⟩⟩
  have key : ∀ (n k : Nat) (v3 v4 : Int), k + n = (S 68).toNat → ((v3 = -6 ∧ v4 = 1000 ∧ ∀ p, p < k → opn p → 1000 ≤ own p) ∨ ∃ b : Nat, b < k ∧ v3 = b ∧ v4 = own b ∧ own b < 1000 ∧ opn b ∧ (∀ p, p < k → opn p → own b ≤ own p) ∧ ∀ p, p < b → opn p → own b < own p) → iv_X5_rushBy_L11 (fun k3_39 => post k3_39 ()) r t S f (n + 1) v3 v4 k := by
    intro n
    induction n with
    | zero =>
      intro k v3 v4 hk hi
      rw [iv_X5_rushBy_L11, iv_X5_many]
      refine ⟨⟨smz (by omega) (by omega), smz (by omega) (by omega)⟩, fun _ => hp v3 ?_, fun c => absurd (by omega) c⟩
      rcases hi with ⟨a1, a2, a3⟩ | ⟨b, b1, b2, b3, b4, b5, b6, b7⟩
      · refine Or.inr ⟨a1, fl_none (fun p hp z => ?_)⟩
        have z2 := (hcF p).mp z
        have := a3 p (by omega) z2.1
        omega
      · have v := hPV.2.2.2 b (by omega)
        have hb5 : S (18 + b) = r := b5.1
        have e : (S (18 + b)).toNat = r := by omega
        have w := hST b (by omega) b5.2 (by rw [e]; exact hs)
        rw [e] at w
        have w2 : farz S t r ≤ own b := w
        obtain ⟨p, p1, p2, p3, p4⟩ := hA r hr hs (by omega)
        have p5 : own p ≤ farz S t r := p4
        have p6 := b6 p (by omega) ⟨p3, p2⟩
        have := fl_eq (c := cF S t r) (p := b) (d := (S 68).toNat - (b + 1)) ((hcF b).mpr ⟨b5, by omega, by omega⟩) (fun q hq z => by
          have z2 := (hcF q).mp z
          have := b7 q hq z2.1
          omega)
        rw [show b + 1 + ((S 68).toNat - (b + 1)) = (S 68).toNat by omega] at this
        exact Or.inl (by rw [b2]; exact this.symm)
    | succ n ih =>
      intro k v3 v4 hk hi
      have hk2 : (k : Int) < S 68 := by omega
      have vv := hPV.2.2.2 k hk2
      have hok := hown k hk2
      have hv4 : 0 ≤ v4 ∧ v4 ≤ 1000 := by
        rcases hi with ⟨a1, a2, a3⟩ | ⟨b, b1, b2, b3, b4, b5, b6, b7⟩
        · omega
        · have := hown b (by omega); omega
      rw [iv_X5_rushBy_L11, iv_X5_many, show ((28 : Int) + (k : Int)).toNat = 28 + k by omega, show ((48 : Int) + (k : Int)).toNat = 48 + k by omega, show ((18 : Int) + (k : Int)).toNat = 18 + k by omega, hf (S (28 + k)).toNat (by omega)]
      have hno : (opn k → v4 ≤ own k) → ∀ x : Int, x = (k : Int) + 1 → iv_X5_rushBy_L11 (fun k3_39 => post k3_39 ()) r t S f (n + 1) v3 v4 x := by
        intro hn x hx
        subst hx
        refine ih (k + 1) v3 v4 (by omega) ?_
        rcases hi with ⟨a1, a2, a3⟩ | ⟨b, b1, b2, b3, b4, b5, b6, b7⟩
        · refine Or.inl ⟨a1, a2, fun p hp ho => ?_⟩
          by_cases e : p = k
          · subst e; have := hn ho; omega
          · exact a3 p (by omega) ho
        · refine Or.inr ⟨b, by omega, b2, b3, b4, b5, fun p hp ho => ?_, b7⟩
          by_cases e : p = k
          · subst e; have := hn ho; omega
          · exact b6 p (by omega) ho
      refine ⟨⟨smz (by omega) (by omega), smz (by omega) (by omega)⟩, fun c => by omega, fun _ => ⟨by omega, by omega, by omega, fun x hx => ⟨by omega, ⟨smz (by omega) (by omega), smz (by omega) (by omega)⟩, fun c => hno (fun z => absurd z.1 c), fun c => ?_⟩⟩⟩
      have hx2 : x = own k := hx
      refine sp_isOpen hPV ht hk2 (fun c2 => ⟨⟨sm1, sm0⟩, fun z => absurd z (by decide), fun _ => ⟨⟨smz (by omega) (by omega), smz (by omega) (by omega)⟩, fun c3 => hno (fun _ => by omega), fun c3 y hy => ?_⟩⟩) (fun c2 => ⟨⟨sm0, sm0⟩, fun _ => hno (fun z => absurd z.2 c2), fun z => absurd rfl z⟩)
      subst hy
      refine ih (k + 1) k x (by omega) (Or.inr ⟨k, by omega, rfl, hx2, by omega, ⟨c, c2⟩, fun p hp ho => ?_, fun p hp ho => ?_⟩)
      · by_cases e : p = k
        · subst e; omega
        · rcases hi with ⟨a1, a2, a3⟩ | ⟨b, b1, b2, b3, b4, b5, b6, b7⟩
          · have := a3 p (by omega) ho; omega
          · have := b6 p (by omega) ho; omega
      · rcases hi with ⟨a1, a2, a3⟩ | ⟨b, b1, b2, b3, b4, b5, b6, b7⟩
        · have := a3 p (by omega) ho; omega
        · have := b6 p (by omega) ho; omega
  rw [iv_X5_rushBy]
  exact ⟨(S 68).toNat + 1, key (S 68).toNat 0 (-6) 1000 (by omega) (Or.inl ⟨rfl, rfl, fun p hp => absurd hp (Nat.not_lt_zero _)⟩)⟩
theorem sp_rushTick (hPV : PV S) (ht : t ≤ 200) (hG : GD s) {mh mc mf : Nat → Int} (h : RR mh mc s) {post : ((Nat → Int) × (Nat → Int) × (Nat → Int)) → Prop} (hp : ∀ mh mc mf, RR mh mc (lvz S t (arz t s 6) 6) → post (mh, mc, mf)) : iv_X5_rushTick t S mh mc mf post := by
  have h0 := hPV.2.1
  have h10 := hPV.2.2.1
  have hg6 := GD.ar (t := t) hG (r := 6) (Nat.le_refl _)
  have k55 : ∀ {mf : Nat → Int}, E6 mf (farz S t) → ∀ (n r : Nat) (mh mc : Nat → Int), r + n = 6 → RR mh mc (lvz S t (arz t s 6) r) → iv_X5_rushTick_L55 (fun m_here_92 m_coming_93 => post (m_here_92, m_coming_93, mf)) t S mf (n + 1) r mh mc := by
    intro mf hf n
    induction n with
    | zero =>
      intro r mh mc hr hc
      rw [iv_X5_rushTick_L55]
      have : r = 6 := by omega
      subst this
      exact ⟨⟨smz (by omega) (by omega), smz (by omega) (by omega)⟩, fun _ => hp _ _ _ hc, fun c => absurd (by omega) c⟩
    | succ n ih =>
      intro r mh mc hr hc
      rw [iv_X5_rushTick_L55, Int.toNat_natCast]
      have hg := GD.lv hPV (t := t) hg6 (r := r) (by omega)
      have b1 := hg.le (r := r) (by omega)
      have h1 := hc.1 r (by omega)
      have hskip : fpz S t r < 0 → iv_X5_rushTick_L55 (fun m_here_92 m_coming_93 => post (m_here_92, m_coming_93, mf)) t S mf (n + 1) ((r : Int) + 1) mh mc := by
        intro q
        refine ih (r + 1) mh mc (by omega) ?_
        show RR mh mc (lv1 S t (lvz S t (arz t s 6) r) r)
        unfold lv1
        rw [if_pos q]
        exact hc
      refine ⟨⟨smz (by omega) (by omega), smz (by omega) (by omega)⟩, fun c => by omega, fun _ => sp_isSafe (by omega) (sfb hPV (by omega)) ?_⟩
      by_cases qs : sfS S r = true
      · rw [if_pos qs]
        refine ⟨⟨sm1, sm0⟩, fun z => absurd z (by decide), fun _ x hx => ?_⟩
        subst hx
        exact hskip (by rw [fpz_safe qs]; omega)
      · rw [if_neg qs]
        refine ⟨⟨sm0, sm0⟩, fun _ => ?_, fun z => absurd rfl z⟩
        refine sp_rushBy hPV ht hf (by omega) (by simpa using qs) (fun v hv => ?_)
        by_cases q : fpz S t r < 0
        · have hv2 : v = -1 ∨ v = -6 := by
            rcases hv with a | ⟨a, b⟩
            · rcases fl_spec (c := cF S t r) (S 68).toNat with ⟨a', b⟩ | ⟨p, a', b, c, d⟩
              · left; rw [a]; exact a'
              · have : fpz S t r = p := a'
                omega
            · right; exact a
          refine ⟨⟨smz (by omega) (by omega), sm0⟩, fun _ x hx => ?_, fun z => absurd (by omega) z⟩
          subst hx
          exact hskip q
        · obtain ⟨p, e, hp1, hp10⟩ := fpz_pos hPV q
          have vv := hPV.2.2.2 p hp1
          have ev : v = p := by
            rcases hv with a | ⟨a, b⟩
            · rw [a]; exact e
            · omega
          subst ev
          rw [show ((38 : Int) + (p : Int)).toNat = 38 + p by omega, show ((48 : Int) + (p : Int)).toNat = 48 + p by omega, show ((28 : Int) + (p : Int)).toNat = 28 + p by omega]
          have ei : (5 * S (28 + p) + ((t : Int) + S (48 + p) - ((t : Int) + S (48 + p)) / 5 * 5)).toNat = 5 * (S (28 + p)).toNat + (t + (S (48 + p)).toNat) % 5 := by omega
          rw [ei]
          have h2 := hc.2 (5 * (S (28 + p)).toNat + (t + (S (48 + p)).toNat) % 5) (by omega)
          have fin : ∀ x : Int, x = (if S (38 + p) < (lvz S t (arz t s 6) r).1 r then S (38 + p) else (lvz S t (arz t s 6) r).1 r) → iv_X5_rushTick_L55 (fun m_here_92 m_coming_93 => post (m_here_92, m_coming_93, mf)) t S mf (n + 1) ((r : Int) + 1) (uz mh r (mh r - x)) (uz mc (5 * (S (28 + p)).toNat + (t + (S (48 + p)).toNat) % 5) (mc (5 * (S (28 + p)).toNat + (t + (S (48 + p)).toNat) % 5) + x)) := by
            intro x hx
            refine ih (r + 1) _ _ (by omega) ?_
            show RR _ _ (lv1 S t (lvz S t (arz t s 6) r) r)
            unfold lv1
            rw [if_neg q, e, Int.toNat_natCast, ← hx]
            exact hc.upd (by rw [h1]) (by rw [h2])
          refine ⟨⟨smz (by omega) (by omega), sm0⟩, fun z => absurd z (by omega), fun _ => ⟨by omega, by omega, ⟨smz (by omega) (by omega), smz (by omega) (by omega)⟩, fun c => ⟨by omega, fun x hx => ⟨by omega, by omega, by omega, by omega, by unfold zn; omega, by omega, by omega, fun y hy => ?_⟩⟩, fun c => ⟨by omega, fun x hx => ⟨by omega, by omega, by omega, by omega, by unfold zn; omega, by omega, by omega, fun y hy => ?_⟩⟩⟩⟩
          · subst hy
            refine fin x ?_
            by_cases z : S (38 + p) < (lvz S t (arz t s 6) r).1 r
            · rw [if_pos z]; exact hx
            · rw [if_neg z]; omega
          · subst hy
            refine fin x ?_
            rw [if_neg (by omega)]; omega
  have k2 : ∀ (n r : Nat) (mh mc : Nat → Int), r + n = 6 → RR mh mc (arz t s r) → iv_X5_rushTick_L2 (fun m_here_17 m_coming_18 => (iv_X5_layFar t S mf (fun (u_19 : (Nat → Int)) => (∃ n_94, iv_X5_rushTick_L55 (fun m_here_92 m_coming_93 => post (m_here_92, m_coming_93, u_19)) t S u_19 n_94 0 m_here_17 m_coming_18)))) t (n + 1) r mh mc := by
    intro n
    induction n with
    | zero =>
      intro r mh mc hr hc
      rw [iv_X5_rushTick_L2]
      have : r = 6 := by omega
      subst this
      exact ⟨⟨smz (by omega) (by omega), smz (by omega) (by omega)⟩, fun _ => sp_layFar hPV ht (fun f hf => ⟨7, k55 hf 6 0 mh mc (by omega) hc⟩), fun c => absurd (by omega) c⟩
    | succ n ih =>
      intro r mh mc hr hc
      rw [iv_X5_rushTick_L2, Int.toNat_natCast, show (5 * (r : Int) + ((t : Int) - (t : Int) / 5 * 5)).toNat = 5 * r + t % 5 by omega]
      refine ⟨⟨smz (by omega) (by omega), smz (by omega) (by omega)⟩, fun c => by omega, fun _ => ⟨by omega, by unfold zn; omega, by omega, by omega, by unfold zn; omega, by omega, fun y hy => ?_⟩⟩
      subst hy
      refine ih (r + 1) _ _ (by omega) ?_
      exact hc.upd (by rw [hc.1 r (by omega), hc.2 (5 * r + t % 5) (by omega)]) rfl
  rw [iv_X5_rushTick]
  exact ⟨7, k2 6 0 mh mc (by omega) h⟩
theorem sp_safeHere (hPV : PV S) {mh : Nat → Int} {post : Int → Unit → Prop} (hp : post (szs S mh) ()) : iv_X5_safeHere S mh post := by
  rw [iv_X5_safeHere]
  have key : ∀ (d r : Nat), r + d = 6 → iv_X5_safeHere_L4 (fun k1_21 => post k1_21 ()) S mh (d + 1) (sg (fun r => if sfS S r = true then mh r else 0) r) r := by
    intro d
    induction d with
    | zero =>
      intro r hr
      rw [iv_X5_safeHere_L4]
      have : r = 6 := by omega
      subst this
      exact ⟨⟨smz (by omega) (by omega), smz (by omega) (by omega)⟩, fun _ => hp, fun c => absurd (by omega) c⟩
    | succ d ih =>
      intro r hr
      rw [iv_X5_safeHere_L4, Int.toNat_natCast]
      refine ⟨⟨smz (by omega) (by omega), smz (by omega) (by omega)⟩, fun c => by omega, fun _ => sp_isSafe (by omega) (sfb hPV (by omega)) ?_⟩
      have hi := ih (r + 1) (by omega)
      rw [show sg (fun r => if sfS S r = true then mh r else 0) (r + 1) = sg (fun r => if sfS S r = true then mh r else 0) r + (if sfS S r = true then mh r else 0) from rfl] at hi
      by_cases q : sfS S r = true
      · rw [if_pos q] at hi
        rw [if_pos q]
        refine ⟨⟨sm1, sm0⟩, fun z => absurd z (by decide), fun _ => ⟨by omega, fun x hx y hy => ?_⟩⟩
        subst hx hy
        exact hi
      · rw [if_neg q] at hi
        rw [if_neg q]
        refine ⟨⟨sm0, sm0⟩, fun _ x hx y hy => ?_, fun z => absurd rfl z⟩
        subst hx hy
        exact hi
  exact ⟨7, key 6 0 (by omega)⟩
theorem sp_beginRush {mh mc : Nat → Int} {post : PS2 → Prop} (hp : ∀ mh mc, RR mh mc (tkz S 0) → post (mh, mc)) : iv_X5_beginRush S mh mc post := by
  rw [iv_X5_beginRush]
  have k30 : ∀ {K : (Nat → Int) → Prop}, (∀ f : Nat → Int, (∀ i, i < 30 → f i = 0) → K f) → ∀ (d r : Nat) (f : Nat → Int), r + d = 30 → (∀ i, i < r → f i = 0) → iv_X5_beginRush_L30 K (d + 1) r f := by
    intro K hK d
    induction d with
    | zero =>
      intro r f hr hf
      rw [iv_X5_beginRush_L30]
      exact ⟨⟨smz (by omega) (by omega), smz (by omega) (by omega)⟩, fun _ => hK f (fun i hi => hf i (by omega)), fun c => absurd (by omega) c⟩
    | succ d ih =>
      intro r f hr hf
      rw [iv_X5_beginRush_L30, Int.toNat_natCast]
      refine ⟨⟨smz (by omega) (by omega), smz (by omega) (by omega)⟩, fun c => by omega, fun _ => ⟨by omega, fun x hx => ?_⟩⟩
      subst hx
      refine ih (r + 1) _ (by omega) (fun i hi => ?_)
      by_cases e : i = r
      · subst e; rw [uz_s]
      · rw [uz_n e]; exact hf i (by omega)
  have k2 : ∀ {K : (Nat → Int) → Prop}, (∀ f : Nat → Int, (∀ i, i < 6 → f i = S i) → K f) → ∀ (d r : Nat) (f : Nat → Int), r + d = 6 → (∀ i, i < r → f i = S i) → iv_X5_beginRush_L2 K S (d + 1) r f := by
    intro K hK d
    induction d with
    | zero =>
      intro r f hr hf
      rw [iv_X5_beginRush_L2]
      exact ⟨⟨smz (by omega) (by omega), smz (by omega) (by omega)⟩, fun _ => hK f (fun i hi => hf i (by omega)), fun c => absurd (by omega) c⟩
    | succ d ih =>
      intro r f hr hf
      rw [iv_X5_beginRush_L2, Int.toNat_natCast, show ((0 : Int) + (r : Int)).toNat = r by omega]
      refine ⟨⟨smz (by omega) (by omega), smz (by omega) (by omega)⟩, fun c => by omega, fun _ => ⟨by omega, by omega, fun x hx => ?_⟩⟩
      subst hx
      refine ih (r + 1) _ (by omega) (fun i hi => ?_)
      by_cases e : i = r
      · subst e; rw [uz_s]
      · rw [uz_n e]; exact hf i (by omega)
  exact ⟨7, k2 (fun f hf => ⟨31, k30 (fun g hg => hp f g ⟨hf, hg⟩) 30 0 mc (by omega) (fun i hi => absurd hi (Nat.not_lt_zero _))⟩) 6 0 mh (by omega) (fun i hi => absurd hi (Nat.not_lt_zero _))⟩
theorem szs_tk : szs S (tkz S (t + 1)).1 = szs S (arz t (tkz S t) 6).1 := szs_congr (fun r _ q => lv_safe q 6)
theorem sp5_rush (hPV : PV S) {a1 : Int} (ha : sm a1) {mh mc mf : Nat → Int} {post : Int → ((Nat → Int) × (Nat → Int) × (Nat → Int)) → Prop} (h0 : ∀ u, ¬ (0 ≤ a1 ∧ a1 ≤ 200) → post (-2) u) (h1 : ∀ u, 0 ≤ a1 → a1 ≤ 200 → post (szs S (arz a1.toNat (tkz S a1.toNat) 6).1) u) : iv_X5_rush a1 S mh mc mf post := by
  rw [iv_X5_rush]
  refine sp_in ha sm0 (smz (by omega) (by omega)) (fun c1 c2 => ⟨⟨sm1, sm0⟩, fun _ => ?_, fun z => absurd z (by decide)⟩) (fun c => ⟨⟨sm0, sm0⟩, fun z => absurd rfl z, fun _ => h0 _ c⟩)
  obtain ⟨T, rfl⟩ : ∃ T : Nat, a1 = T := ⟨a1.toNat, by omega⟩
  rw [Int.toNat_natCast] at h1
  refine sp_beginRush (fun mh mc hc => ?_)
  have key : ∀ (n t : Nat) (mh mc mf : Nat → Int), t + n = T + 1 → RR mh mc (tkz S t) → iv_X5_rush_L20 (fun m_here_23 m_coming_24 m_far_25 => (iv_X5_safeHere S m_here_23 (fun (r_27 : Int) (u_26 : Unit) => post r_27 (m_here_23, m_coming_24, m_far_25)))) T S (n + 1) t mh mc mf := by
    intro n
    induction n with
    | zero =>
      intro t mh mc mf hk hc
      rw [iv_X5_rush_L20]
      have : t = T + 1 := by omega
      subst this
      refine ⟨⟨smz (by omega) (by omega), smz (by omega) (by omega)⟩, fun _ => sp_safeHere hPV ?_, fun c => absurd (by omega) c⟩
      have e : szs S mh = szs S (tkz S (T + 1)).1 := szs_congr (fun r hr _ => hc.1 r hr)
      rw [e, szs_tk]
      exact h1 _ c1 c2
    | succ n ih =>
      intro t mh mc mf hk hc
      rw [iv_X5_rush_L20]
      refine ⟨⟨smz (by omega) (by omega), smz (by omega) (by omega)⟩, fun c => by omega, fun _ => sp_rushTick hPV (by omega) (GD.tk hPV t) hc (fun mh mc mf hc2 x hx => ?_)⟩
      subst hx
      exact ih (t + 1) mh mc mf (by omega) hc2
  exact ⟨T + 2, key (T + 1) 0 mh mc mf (by omega) hc⟩
theorem sp5_rushed (hPV : PV S) {mh mc mf : Nat → Int} {post : Int → ((Nat → Int) × (Nat → Int) × (Nat → Int)) → Prop} (h1 : ∀ y u, rhS S y → post y u) : iv_X5_rushed S mh mc mf post := by
  rw [iv_X5_rushed]
  refine sp_beginRush (fun mh mc hc => ?_)
  have hsum := hPV.sum
  have key : ∀ (n t : Nat) (mh mc mf : Nat → Int), t + n = 201 → RR mh mc (tkz S t) → (∀ t', t' < t → szs S (arz t' (tkz S t') 6).1 ≠ sg S 6) → iv_X5_rushed_L6 (fun m_here_29 m_coming_30 m_far_31 => post (-6) (m_here_29, m_coming_30, m_far_31)) post S (n + 1) t mh mc mf := by
    intro n
    induction n with
    | zero =>
      intro t mh mc mf hk hc hz
      rw [iv_X5_rushed_L6]
      exact ⟨⟨smz (by omega) (by omega), smz (by omega) (by omega)⟩, fun _ => h1 _ _ (Or.inl ⟨rfl, fun t' ht' => hz t' (by omega)⟩), fun c => absurd (by omega) c⟩
    | succ n ih =>
      intro t mh mc mf hk hc hz
      rw [iv_X5_rushed_L6]
      refine ⟨⟨smz (by omega) (by omega), smz (by omega) (by omega)⟩, fun c => by omega, fun _ => sp_rushTick hPV (by omega) (GD.tk hPV t) hc (fun mh mc mf hc2 => ?_)⟩
      have hc3 : RR mh mc (tkz S (t + 1)) := hc2
      refine sp_safeHere hPV ?_
      have e : szs S mh = szs S (arz t (tkz S t) 6).1 := by rw [← szs_tk]; exact szs_congr (fun r hr _ => hc3.1 r hr)
      have hb := szs_b (S := S) (GD.ar (t := t) (GD.tk hPV t) (r := 6) (Nat.le_refl _))
      show iv_X5_people S _
      refine sp_people ?_
      rw [e]
      refine ⟨⟨smz (by omega) (by omega), smz (by omega) (by omega)⟩, fun c x hx => ?_, fun c => ?_⟩
      · subst hx
        refine ih (t + 1) mh mc mf (by omega) hc3 (fun t' ht' => ?_)
        by_cases z : t' = t
        · subst z; exact c
        · exact hz t' (by omega)
      · exact h1 _ _ (Or.inr ⟨t, rfl, by omega, c, hz⟩)
  exact ⟨202, key 201 0 mh mc mf (by omega) hc (fun t' h => absurd h (Nat.not_lt_zero _))⟩
end RRU
