/-! findWayOut: a room with somebody not led from which there is a way, or a cut -/
def sfm (m : Int) : Nat → Bool := fun r => m.toNat.testBit r
theorem sp_isIn {m : Int} {r : Nat} {post : Int → Unit → Prop} (hm : 0 ≤ m ∧ m < 64) (hr : r < 6) (hp : post (if sfm m r = true then 1 else 0) ()) : iv_X4_isIn m r post := by
  rw [iv_X4_isIn, Int.toNat_natCast]
  exact ⟨by omega, hp⟩
theorem zor_00 : zor 0 0 = 0 := rfl
theorem zor_01 : zor 0 1 = 1 := rfl
theorem zor_10 : zor 1 0 = 1 := rfl
theorem zor_11 : zor 1 1 = 1 := rfl
def NWc (goal : Int) (E La : Nat → Int) (a : Nat) : Prop := 0 ≤ La a → La a < goal → E (a * 61 + (La a).toNat) ≤ 0
def LNc (F G L Wd Sh : Nat → Int) (goal : Int) (E La : Nat → Int) (l : Nat) : Prop :=
  (∀ t : Nat, La (F l).toNat < t → (t : Int) < Sh l → t + L l ≤ La (G l).toNat → Wd l ≤ E (l * 61 + t)) ∧
  (∀ t : Nat, t ≤ La (F l).toNat → t + L l ≤ goal → La (G l).toNat < t + L l → E (l * 61 + t) ≤ 0)
section Find
variable {nL : Nat} {F G L Wd Sh : Nat → Int} {m : Int} {goal : Int} {E : Nat → Int}
theorem rooms_L (hNV : NV nL F G L Wd Sh) (hg0 : 0 ≤ goal) (hg : goal ≤ 60) (hEB : ∀ e, e < 976 → 0 ≤ E e ∧ E e ≤ 1000) (hE2 : ∀ e, e < 976 → E e ≠ 0 → sfm m (F (e / 61)).toNat = false) {La0 : Nat → Int} {K : Int → (Nat → Int) → (Nat → Int) → Prop}
    (hK : ∀ v2 La St, (∃ rk, SR nL F G L Wd Sh (sfm m) goal E La St rk) → (∀ r, r < 6 → La0 r ≤ La r) → ((v2 = 0 ∧ La = La0 ∧ ∀ r, r < 6 → NWc goal E La0 r) ∨ (v2 = 1 ∧ cntz (sfm m) La0 < cntz (sfm m) La)) → K v2 La St) :
    ∀ (d k : Nat) (v2 : Int) (La St : Nat → Int), k + d = 6 → (∃ rk, SR nL F G L Wd Sh (sfm m) goal E La St rk) → (∀ r, r < 6 → La0 r ≤ La r) → ((v2 = 0 ∧ La = La0 ∧ ∀ r, r < k → NWc goal E La0 r) ∨ (v2 = 1 ∧ cntz (sfm m) La0 < cntz (sfm m) La)) → iv_X0_findWayOut_L56 K goal E (d + 1) v2 k La St
  | 0, k, v2, La, St, hk, hS, hm, hc => by
    rw [iv_X0_findWayOut_L56]
    have : k = 6 := by omega
    subst this
    exact ⟨⟨smz (by omega) (by omega), smz (by omega) (by omega)⟩, fun _ => hK v2 La St hS hm hc, fun c => absurd (by omega) c⟩
  | d + 1, k, v2, La, St, hk, hS, hm, hc => by
    rw [iv_X0_findWayOut_L56]
    refine ⟨⟨smz (by omega) (by omega), smz (by omega) (by omega)⟩, fun c => by omega, fun c => ?_⟩
    obtain ⟨rk, hS⟩ := hS
    refine sp_notwait hNV hg0 hg hEB hE2 hS (by omega) (fun r u hu => ?_)
    obtain ⟨u1, u2, u3⟩ := hu
    have hm2 : ∀ r, r < 6 → La0 r ≤ u.1 r := fun r hr => Int.le_trans (hm r hr) (u2 r hr)
    have hr01 : r = 0 ∨ r = 1 := by rcases u3 with ⟨q, _⟩ | ⟨q, _⟩ <;> omega
    have hv01 : v2 = 0 ∨ v2 = 1 := by rcases hc with ⟨q, _⟩ | ⟨q, _⟩ <;> omega
    refine ⟨⟨by unfold zn; omega, by unfold zn; omega⟩, fun x2 h2 x4 h4 => ?_⟩
    subst h4
    refine rooms_L hNV hg0 hg hEB hE2 hK d (k + 1) x2 u.1 u.2 (by omega) u1 hm2 ?_
    rcases hc with ⟨c1, c2, c3⟩ | ⟨c1, c2⟩
    · subst c1 c2
      rcases u3 with ⟨q1, q2, q3⟩ | ⟨q1, q2⟩
      · subst q1
        refine Or.inl ⟨by rw [h2, zor_00], q2, fun r hr => ?_⟩
        by_cases z : r = k
        · subst z; exact q3
        · exact c3 r (by omega)
      · subst q1
        exact Or.inr ⟨by rw [h2, zor_01], q2⟩
    · subst c1
      refine Or.inr ⟨?_, Int.lt_of_lt_of_le c2 (cnt_mono u2)⟩
      rcases hr01 with q | q
      · rw [h2, q, zor_10]
      · rw [h2, q, zor_11]
theorem lanes_L (hNV : NV nL F G L Wd Sh) (hm0 : 0 ≤ m ∧ m < 64) (hg0 : 0 ≤ goal) (hg : goal ≤ 60) (hEB : ∀ e, e < 976 → 0 ≤ E e ∧ E e ≤ 1000) {La0 : Nat → Int} {P : Prop} {K : Int → (Nat → Int) → (Nat → Int) → Prop}
    (hK : ∀ v2 La St, (∃ rk, SR nL F G L Wd Sh (sfm m) goal E La St rk) → ((v2 = 0 ∧ La = La0 ∧ P ∧ ∀ l, 6 ≤ l → l < nL → sfm m (F l).toNat = false → LNc F G L Wd Sh goal E La0 l) ∨ (v2 = 1 ∧ cntz (sfm m) La0 < cntz (sfm m) La)) → K v2 La St) :
    ∀ (d k : Nat) (v2 : Int) (La St : Nat → Int), k + d = nL → 6 ≤ k → (∃ rk, SR nL F G L Wd Sh (sfm m) goal E La St rk) → ((v2 = 0 ∧ La = La0 ∧ P ∧ ∀ l, 6 ≤ l → l < k → sfm m (F l).toNat = false → LNc F G L Wd Sh goal E La0 l) ∨ (v2 = 1 ∧ cntz (sfm m) La0 < cntz (sfm m) La)) → iv_X0_findWayOut_L83 K goal nL F G Wd L Sh m E (d + 1) v2 k La St
  | 0, k, v2, La, St, hk, hk6, hS, hc => by
    have hn := hNV.2.1
    rw [iv_X0_findWayOut_L83]
    have : k = nL := by omega
    subst this
    exact ⟨⟨smz (by omega) (by omega), smz (by omega) (by omega)⟩, fun _ => hK v2 La St hS hc, fun c => absurd (Int.le_refl _) c⟩
  | d + 1, k, v2, La, St, hk, hk6, hS, hc => by
    have hn := hNV.2.1
    have hvl := hNV.2.2.1 k (by omega)
    rw [iv_X0_findWayOut_L83, Int.toNat_natCast]
    refine ⟨⟨smz (by omega) (by omega), smz (by omega) (by omega)⟩, fun c => by omega, fun c => ⟨by omega, ?_⟩⟩
    obtain ⟨a, hF⟩ : ∃ a : Nat, F k = a := ⟨(F k).toNat, by omega⟩
    rw [hF]
    refine sp_isIn hm0 (by omega) ?_
    by_cases hs : sfm m a = true
    · rw [if_pos hs]
      refine ⟨⟨smz (by omega) (by omega), smz (by omega) (by omega)⟩, fun _ x4 h4 => ?_, fun c2 => absurd c2 (by decide)⟩
      subst h4
      refine lanes_L hNV hm0 hg0 hg hEB hK d (k + 1) v2 La St (by omega) (by omega) hS ?_
      rcases hc with ⟨c1, c2, c3, c4⟩ | c1
      · refine Or.inl ⟨c1, c2, c3, fun l h1 h2 h3 => ?_⟩
        by_cases z : l = k
        · subst z; rw [hF, Int.toNat_natCast, hs] at h3; exact absurd h3 (by decide)
        · exact c4 l h1 (by omega) h3
      · exact Or.inr c1
    · have hs : sfm m a = false := by simpa using hs
      rw [if_neg (by rw [hs]; decide)]
      refine ⟨⟨smz (by omega) (by omega), smz (by omega) (by omega)⟩, fun c2 => absurd rfl c2, fun _ => ?_⟩
      obtain ⟨rk, hS⟩ := hS
      have hsa : sfm m (F k).toNat = false := by rw [hF, Int.toNat_natCast]; exact hs
      refine sp_enter hNV hg0 hg hEB hS (by omega) hk6 hsa (fun r u hu => ?_)
      obtain ⟨⟨rk1, u1⟩, u2, u3⟩ := hu
      have hr01 : r = 0 ∨ r = 1 := by rcases u3 with ⟨q, _⟩ | ⟨q, _⟩ <;> omega
      have hv01 : v2 = 0 ∨ v2 = 1 := by rcases hc with ⟨q, _⟩ | ⟨q, _⟩ <;> omega
      refine ⟨⟨by unfold zn; omega, by unfold zn; omega⟩, fun x2 h2 => ?_⟩
      have hx01 : x2 = 0 ∨ x2 = 1 := by
        rcases hr01 with q | q <;> rcases hv01 with z | z <;> subst q <;> subst z <;> rw [h2] <;> decide
      refine sp_back hNV hg0 hg hEB u1 (by omega) hk6 (fun r' u' hu' => ?_)
      obtain ⟨w1, w2, w3⟩ := hu'
      have hr01' : r' = 0 ∨ r' = 1 := by rcases w3 with ⟨q, _⟩ | ⟨q, _⟩ <;> omega
      refine ⟨⟨by unfold zn; omega, by unfold zn; omega⟩, fun x2' h2' x4 h4 => ?_⟩
      subst h4
      refine lanes_L hNV hm0 hg0 hg hEB hK d (k + 1) x2' u'.1 u'.2 (by omega) (by omega) w1 ?_
      rcases hc with ⟨c1, c2, c3, c4⟩ | ⟨c1, c2⟩
      · subst c1 c2
        rcases u3 with ⟨q1, q2, q3⟩ | ⟨q1, q2⟩
        · rcases w3 with ⟨p1, p2, p3⟩ | ⟨p1, p2⟩
          · subst q1 p1
            refine Or.inl ⟨by rw [h2', h2]; decide, p2.trans q2, c3, fun l h1 h2 h3 => ?_⟩
            by_cases z : l = k
            · subst z
              refine ⟨q3, ?_⟩
              rw [← q2]
              exact p3
            · exact c4 l h1 (by omega) h3
          · subst q1 p1
            refine Or.inr ⟨by rw [h2', h2]; decide, ?_⟩
            rw [← q2]
            exact p2
        · refine Or.inr ⟨?_, Int.lt_of_lt_of_le q2 (cnt_mono w2)⟩
          subst q1
          rcases hr01' with z | z <;> subst z <;> rw [h2', h2] <;> decide
      · subst c1
        refine Or.inr ⟨?_, Int.lt_of_lt_of_le (Int.lt_of_lt_of_le c2 (cnt_mono u2)) (cnt_mono w2)⟩
        rcases hr01 with q | q <;> rcases hr01' with z | z <;> subst q <;> subst z <;> rw [h2', h2] <;> decide
theorem sp_rrnl {nl La : Nat → Int} {post : Int → Unit → Prop} (hb : ∀ r, r < 6 → sm (nl r) ∧ sm (La r)) (h1 : ∀ a : Nat, a < 6 → 0 < nl a → 0 ≤ La a → post a ()) (h2 : (∀ r, r < 6 → 0 < nl r → La r < 0) → post (-1) ()) : iv_X0_reachedRoomNotLed nl La post := by
  rw [iv_X0_reachedRoomNotLed]
  have key : ∀ (d k : Nat), k + d = 6 → (∀ r, r < k → 0 < nl r → La r < 0) → iv_X0_reachedRoomNotLed_L2 (post (-1) ()) post nl La (d + 1) k := by
    intro d
    induction d with
    | zero =>
      intro k hk hi
      rw [iv_X0_reachedRoomNotLed_L2]
      have : k = 6 := by omega
      subst this
      exact ⟨⟨smz (by omega) (by omega), smz (by omega) (by omega)⟩, fun _ => h2 hi, fun c => absurd (by omega) c⟩
    | succ d ih =>
      intro k hk hi
      rw [iv_X0_reachedRoomNotLed_L2, Int.toNat_natCast]
      have hbk := hb k (by omega)
      have hz : sm 0 := smz (by omega) (by omega)
      refine ⟨⟨smz (by omega) (by omega), smz (by omega) (by omega)⟩, fun c => by omega, fun c => ⟨by omega, ⟨hbk.1, hz⟩, fun c2 x hx => ?_, fun c2 => ⟨by omega, ⟨hbk.2, hz⟩, fun c3 x hx => ?_, fun c3 => h1 k (by omega) (by omega) (by omega)⟩⟩⟩
      · subst hx
        refine ih (k + 1) (by omega) (fun r hr h3 => ?_)
        by_cases z : r = k
        · subst z; omega
        · exact hi r (by omega) h3
      · subst hx
        refine ih (k + 1) (by omega) (fun r hr h3 => ?_)
        by_cases z : r = k
        · subst z; exact c3
        · exact hi r (by omega) h3
  exact ⟨7, key 6 0 (by omega) (fun r hr => absurd hr (Nat.not_lt_zero r))⟩
/-- what a search that found nothing knows -/
def Shutz (nL : Nat) (F G L Wd Sh : Nat → Int) (m goal : Int) (E nl La : Nat → Int) : Prop :=
  (∀ r, r < 6 → (sfm m r = true → La r = goal) ∧ -1 ≤ La r ∧ La r ≤ goal) ∧ (∀ r, r < 6 → NWc goal E La r) ∧ (∀ l, 6 ≤ l → l < nL → sfm m (F l).toNat = false → LNc F G L Wd Sh goal E La l) ∧ (∀ r, r < 6 → 0 < nl r → La r < 0)
theorem rounds_L (hNV : NV nL F G L Wd Sh) (hm0 : 0 ≤ m ∧ m < 64) (hg0 : 0 ≤ goal) (hg : goal ≤ 60) (hEB : ∀ e, e < 976 → 0 ≤ E e ∧ E e ≤ 1000) (hE2 : ∀ e, e < 976 → E e ≠ 0 → sfm m (F (e / 61)).toNat = false) {nl : Nat → Int} (hnl : ∀ r, r < 6 → 0 ≤ nl r ∧ nl r ≤ 1000) {K : (Nat → Int) → (Nat → Int) → Prop} {post : Int → ((Nat → Int) × (Nat → Int)) → Prop}
    (hK : ∀ La St, Shutz nL F G L Wd Sh m goal E nl La → K La St) (hp : ∀ (a : Nat) u, a < 6 → 0 < nl a → 0 ≤ u.1 a → (∃ rk, SR nL F G L Wd Sh (sfm m) goal E u.1 u.2 rk) → post a u) :
    ∀ (d : Nat) (v2 v3 : Int) (La St : Nat → Int), v3 + d = 368 → 0 ≤ v3 → (∃ rk, SR nL F G L Wd Sh (sfm m) goal E La St rk) → (∀ r, r < 6 → 0 < nl r → La r < 0) → ((v2 = 0 ∧ (∀ r, r < 6 → NWc goal E La r) ∧ ∀ l, 6 ≤ l → l < nL → sfm m (F l).toNat = false → LNc F G L Wd Sh goal E La l) ∨ (v2 = 1 ∧ v3 ≤ cntz (sfm m) La)) → iv_X0_findWayOut_L40 K post goal nL F G Wd L Sh m nl E (d + 1) v2 v3 La St
  | d, v2, v3, La, St, hd, h3, hS, hno, hc => by
    rw [iv_X0_findWayOut_L40]
    have hz : sm 0 := smz (by omega) (by omega)
    obtain ⟨rk, hS⟩ := hS
    have hcl := cnt_le (sf := sfm m) (La := La) (fun r hr => by have := hS.1 r hr; omega)
    have hv01 : v2 = 0 ∨ v2 = 1 := by rcases hc with ⟨q, _⟩ | ⟨q, _⟩ <;> omega
    refine ⟨⟨smz (by omega) (by omega), hz⟩, fun c => ?_, fun c => ?_⟩
    · rcases hc with ⟨c1, c2, c3⟩ | ⟨c1, c2⟩
      · exact hK La St ⟨hS.1, c2, c3, hno⟩
      · omega
    · have hc1 : v2 = 1 ∧ v3 ≤ cntz (sfm m) La := by
        rcases hc with ⟨c1, _⟩ | c1
        · exact absurd c1 c
        · exact c1
      refine ⟨⟨smz (by omega) (by omega), smz (by omega) (by omega)⟩, fun c2 => by omega, fun c2 => ?_⟩
      refine ⟨7, rooms_L (La0 := La) hNV hg0 hg hEB hE2 (fun v2' La' St' g1 g2 g3 => ?_) 6 0 0 La St (by omega) ⟨rk, hS⟩ (fun _ _ => Int.le_refl _) (Or.inl ⟨rfl, rfl, fun r hr => absurd hr (Nat.not_lt_zero r)⟩)⟩
      refine ⟨nL - 6 + 1, lanes_L (La0 := La) (P := ∀ r, r < 6 → NWc goal E La r) hNV hm0 hg0 hg hEB (fun v2'' La'' St'' f1 f3 => ?_) (nL - 6) 6 v2' La' St' (by have := hNV.1; omega) (Nat.le_refl 6) g1 ?_⟩
      · obtain ⟨rk2, f1⟩ := f1
        have hb2 : ∀ r, r < 6 → sm (nl r) ∧ sm (La'' r) := fun r hr => by
          have w1 := f1.1 r hr
          have w2 := hnl r hr
          exact ⟨smz (by omega) (by omega), smz (by omega) (by omega)⟩
        refine sp_rrnl hb2 (fun a ha q1 q2 => ⟨⟨smz (by omega) (by omega), hz⟩, fun z => by omega, fun _ => hp a (La'', St'') ha q1 q2 ⟨rk2, f1⟩⟩) (fun hno2 => ⟨⟨smz (by omega) (by omega), hz⟩, fun _ x hx => ?_, fun z => absurd (by omega) z⟩)
        subst hx
        match d, hd with
        | 0, hd => exact absurd hd (by omega)
        | d + 1, hd =>
          refine rounds_L hNV hm0 hg0 hg hEB hE2 hnl hK hp d v2'' (v3 + 1) La'' St'' (by omega) (by omega) ⟨rk2, f1⟩ hno2 ?_
          rcases f3 with ⟨p1, p2, p3, p4⟩ | ⟨p1, p2⟩
          · subst p2
            exact Or.inl ⟨p1, p3, p4⟩
          · exact Or.inr ⟨p1, by omega⟩
      · rcases g3 with ⟨p1, p2, p3⟩ | ⟨p1, p2⟩
        · exact Or.inl ⟨p1, p2, p3, fun l h1 h2 => by omega⟩
        · exact Or.inr ⟨p1, p2⟩
theorem sp_find (hNV : NV nL F G L Wd Sh) (hm0 : 0 ≤ m ∧ m < 64) (hg0 : 0 ≤ goal) (hg : goal ≤ 60) (hEB : ∀ e, e < 976 → 0 ≤ E e ∧ E e ≤ 1000) (hE2 : ∀ e, e < 976 → E e ≠ 0 → sfm m (F (e / 61)).toNat = false) {nl La St : Nat → Int} (hnl : ∀ r, r < 6 → 0 ≤ nl r ∧ nl r ≤ 1000) (hns : ∀ r, r < 6 → sfm m r = true → nl r = 0) {post : Int → ((Nat → Int) × (Nat → Int)) → Prop}
    (hK : ∀ u, Shutz nL F G L Wd Sh m goal E nl u.1 → post (-1) u) (hp : ∀ (a : Nat) u, a < 6 → 0 < nl a → 0 ≤ u.1 a → (∃ rk, SR nL F G L Wd Sh (sfm m) goal E u.1 u.2 rk) → post a u) : iv_X0_findWayOut goal nL F G Wd L Sh m nl E La St post := by
  rw [iv_X0_findWayOut]
  have key : ∀ (d k : Nat) (La : Nat → Int), k + d = 6 → (∀ r, r < k → La r = if sfm m r = true then goal else -1) → ∀ {K : (Nat → Int) → Prop}, (∀ La : Nat → Int, (∀ r, r < 6 → La r = if sfm m r = true then goal else -1) → K La) → iv_X0_findWayOut_L2 K goal m (d + 1) k La := by
    intro d
    induction d with
    | zero =>
      intro k La hk hi K hK
      rw [iv_X0_findWayOut_L2]
      have : k = 6 := by omega
      subst this
      exact ⟨⟨smz (by omega) (by omega), smz (by omega) (by omega)⟩, fun _ => hK La hi, fun c => absurd (by omega) c⟩
    | succ d ih =>
      intro k La hk hi K hK
      rw [iv_X0_findWayOut_L2, Int.toNat_natCast]
      have hz : sm 0 := smz (by omega) (by omega)
      refine ⟨⟨smz (by omega) (by omega), smz (by omega) (by omega)⟩, fun c => by omega, fun c => sp_isIn hm0 (by omega) ?_⟩
      have hstep : ∀ z : Int, (z = if sfm m k = true then goal else -1) → ∀ r, r < k + 1 → uz La k z r = if sfm m r = true then goal else -1 := by
        intro z hz r hr
        by_cases q : r = k
        · subst q; rw [uz_s]; exact hz
        · rw [uz_n q]; exact hi r (by omega)
      by_cases hs : sfm m k = true
      · rw [if_pos hs]
        refine ⟨⟨smz (by omega) (by omega), hz⟩, fun c2 => absurd c2 (by decide), fun _ => ⟨by omega, fun x hx => ?_⟩⟩
        subst hx
        exact ih (k + 1) _ (by omega) (hstep goal (by rw [if_pos hs])) hK
      · rw [if_neg hs]
        refine ⟨⟨smz (by omega) (by omega), hz⟩, fun _ => ⟨by omega, fun x hx => ?_⟩, fun c2 => absurd rfl c2⟩
        subst hx
        exact ih (k + 1) _ (by omega) (hstep (-1) (by rw [if_neg hs])) hK
  refine ⟨7, key 6 0 La (by omega) (fun r hr => absurd hr (Nat.not_lt_zero r)) (fun La1 hLa => ?_)⟩
  have hsr : SR nL F G L Wd Sh (sfm m) goal E La1 St (fun _ _ => 0) := by
    refine ⟨fun r hr => ?_, fun _ _ _ => rfl, fun r t hr hs ht => ?_⟩
    · have := hLa r hr
      by_cases q : sfm m r = true
      · rw [if_pos q] at this; exact ⟨fun _ => this, by omega, by omega⟩
      · rw [if_neg q] at this; exact ⟨fun z => absurd z q, by omega, by omega⟩
    · have := hLa r hr
      rw [if_neg (by rw [hs]; decide)] at this
      omega
  refine ⟨369, rounds_L hNV hm0 hg0 hg hEB hE2 hnl (fun La2 St2 h => hK (La2, St2) h) hp 368 1 0 La1 St (by omega) (by omega) ⟨_, hsr⟩ (fun r hr h0 => ?_) (Or.inr ⟨rfl, cnt_nonneg (fun r hr => (hsr.1 r hr).2.1)⟩)⟩
  have := hLa r hr
  by_cases q : sfm m r = true
  · have := hns r hr q; omega
  · rw [if_neg q] at this; omega
end Find
