/-! THE REFERENCE'S OUT, LAST, HELPS, NEEDED, DOOR -/
theorem uz_back {S : Nat → Int} {a : Nat} : uz (uz S a (S a + 1)) a (uz S a (S a + 1) a - 1) = S := by
  rw [uz_uz, uz_s, show S a + 1 - 1 = S a by omega, uz_id]
theorem LV.b {S : Nat → Int} {x : Int} (h : LV S x) : x = -6 ∨ (0 ≤ x ∧ x ≤ 60) := by
  rcases h with ⟨a, _⟩ | ⟨t, a, b, _⟩
  · exact Or.inl a
  · exact Or.inr (by omega)
theorem LV.le {S : Nat → Int} {y : Int} (h : LV S y) {t : Nat} (ht : t ≤ 60) : AZ S t ↔ (0 ≤ y ∧ y ≤ t) := by
  rcases h with ⟨a, b⟩ | ⟨k, a, b, c, d⟩
  · exact ⟨fun z => absurd (z.mono ht) b, fun z => by omega⟩
  · refine ⟨fun z => ⟨by omega, ?_⟩, fun z => c.mono (by omega)⟩
    by_cases q : t < k
    · exact absurd z (d t q)
    · omega
theorem cH_iff {S : Nat → Int} {x y : Int} {p : Nat} (hx : LV S x) (hy : LV (uz S (38 + p) (S (38 + p) + 1)) y) : cH S x p ↔ (0 ≤ y ∧ (x < 0 ∨ y < x)) := by
  have b := hx.b
  constructor
  · rintro (⟨a1, a2⟩ | ⟨t, a1, a2⟩)
    · have := (hy.le (by omega)).mp a2
      exact ⟨this.1, Or.inl (by omega)⟩
    · have := (hy.le (t := t) (by omega)).mp a2
      exact ⟨this.1, Or.inr (by omega)⟩
  · rintro ⟨a1, a2⟩
    have c := hy.b
    by_cases q : x < 0
    · exact Or.inl ⟨by omega, (hy.le (by omega)).mpr ⟨a1, by omega⟩⟩
    · exact Or.inr ⟨(x - 1).toNat, by omega, (hy.le (by omega)).mpr ⟨a1, by omega⟩⟩
theorem cN_iff {S : Nat → Int} {x y : Int} {p : Nat} (hx : 0 ≤ x ∧ x ≤ 60) (hy : LV (uz S (58 + p) 0) y) : cN S x p ↔ (y < 0 ∨ x < y) := by
  unfold cN
  rw [hy.le (by omega)]
  omega
section RH
variable {S : Nat → Int} {gs ws nl cf cb wv : Nat → Int} {wn g gb un : Int}
theorem sp5_out (hPV : PV S) {a1 : Int} (ha : sm a1) {post : Int → ((Nat → Int) × (Nat → Int) × (Nat → Int) × (Nat → Int) × (Nat → Int) × (Nat → Int) × Int × Int × Int × Int) → Prop} (h0 : ∀ u, ¬ (0 ≤ a1 ∧ a1 ≤ 60) → post (-2) u) (h1 : ∀ (v : Int) u, 0 ≤ a1 → a1 ≤ 60 → MS S a1.toNat v → post (sg S 6 - v) u) : iv_X5_out a1 S gs ws nl cf cb wv wn g gb un post := by
  rw [iv_X5_out]
  refine sp_in ha sm0 (smz (by omega) (by omega)) (fun c1 c2 => ⟨⟨sm1, sm0⟩, fun z => absurd z (by decide), fun _ => ?_⟩) (fun c => ⟨⟨sm0, sm0⟩, fun _ => h0 _ c, fun z => absurd rfl z⟩)
  obtain ⟨t, rfl⟩ : ∃ t : Nat, a1 = t := ⟨a1.toNat, by omega⟩
  exact sp_outBy hPV (by omega) (fun v u hv => h1 v _ c1 c2 hv)
theorem sp5_last (hPV : PV S) {post : Int → ((Nat → Int) × (Nat → Int) × (Nat → Int) × (Nat → Int) × (Nat → Int) × (Nat → Int) × Int × Int × Int × Int) → Prop} (h1 : ∀ (x : Int) u, LV S x → post x u) : iv_X5_last S gs ws nl cf cb wv wn g gb un post := by
  rw [iv_X5_last]
  exact sp_lastOne hPV (fun x u hx => h1 x _ hx)
theorem helps5_L (hPV : PV6 S) {x : Int} (hx : LV S x) {K : Int → (Nat → Int) → (Nat → Int) → (Nat → Int) → (Nat → Int) → (Nat → Int) → (Nat → Int) → (Nat → Int) → Int → Int → Int → Int → Prop} (hK : ∀ gs ws nl cf cb wv wn g gb un, K (bs (cH S x) (S 68).toNat) S gs ws nl cf cb wv wn g gb un) :
    ∀ (d k : Nat) (v : Int) gs ws nl cf cb wv wn g gb un, k + d = (S 68).toNat → v = bs (cH S x) k → iv_X5_helps_L9 K x (d + 1) v k S gs ws nl cf cb wv wn g gb un := by
  have h10 := hPV.1.2.2.1
  have h00 := hPV.1.2.1
  have hb := hx.b
  intro d
  induction d with
  | zero =>
    intro k v gs ws nl cf cb wv wn g gb un hk hv
    rw [iv_X5_helps_L9, iv_X5_many]
    refine ⟨⟨smz (by omega) (by omega), smz (by omega) (by omega)⟩, fun _ => ?_, fun c => absurd (by omega) c⟩
    have : k = (S 68).toNat := by omega
    subst this hv
    exact hK _ _ _ _ _ _ _ _ _ _
  | succ d ih =>
    intro k v gs ws nl cf cb wv wn g gb un hk hv
    rw [iv_X5_helps_L9, iv_X5_many]
    have hk10 : k < 10 := by omega
    have h6 := hPV.2 k (by omega)
    have h1 := hPV.1.2.2.2 k (by omega)
    rw [show ((38 : Int) + (k : Int)).toNat = 38 + k by omega, Int.toNat_natCast]
    refine ⟨⟨smz (by omega) (by omega), smz (by omega) (by omega)⟩, fun c => by omega, fun _ => ⟨by omega, by omega, ?_⟩⟩
    refine sp_lastOne (hPV.1.setw hk10 (by omega)) (fun y u hy => ?_)
    have hyb := hy.b
    have hiff := cH_iff hx hy
    rw [uz_back]
    have hzn : zn v := by rw [hv]; exact bs_zn _ (by omega)
    have hvz : zor v 0 = v := zor_z hzn.1
    have h0 : ¬ cH S x k → v = bs (cH S x) (k + 1) := fun z => by rw [bs, if_neg z, hv]
    have h1 : cH S x k → zor v (2 ^ k) = bs (cH S x) (k + 1) := fun z => by rw [bs, if_pos z, hv]
    refine ⟨by omega, by omega, ⟨smz (by omega) (by omega), sm0⟩, fun c1 => ⟨⟨hzn, by unfold zn; omega⟩, fun a ha b hb => ?_⟩, fun c1 => ⟨⟨smz (by omega) (by omega), sm0⟩, fun c2 => ⟨by omega, ⟨hzn, p2_zn (by omega)⟩, fun a ha b hb => ?_⟩, fun c2 => ⟨⟨smz (by omega) (by omega), smz (by omega) (by omega)⟩, fun c3 => ⟨⟨hzn, by unfold zn; omega⟩, fun a ha b hb => ?_⟩, fun c3 => ⟨by omega, ⟨hzn, p2_zn (by omega)⟩, fun a ha b hb => ?_⟩⟩⟩⟩
    · subst hb
      exact ih (k + 1) a _ _ _ _ _ _ _ _ _ _ (by omega) (by rw [ha, hvz]; exact h0 (fun z => by have := hiff.mp z; omega))
    · subst hb
      exact ih (k + 1) a _ _ _ _ _ _ _ _ _ _ (by omega) (by rw [ha]; exact h1 (hiff.mpr ⟨by omega, Or.inl c2⟩))
    · subst hb
      exact ih (k + 1) a _ _ _ _ _ _ _ _ _ _ (by omega) (by rw [ha, hvz]; exact h0 (fun z => by have := hiff.mp z; omega))
    · subst hb
      exact ih (k + 1) a _ _ _ _ _ _ _ _ _ _ (by omega) (by rw [ha]; exact h1 (hiff.mpr ⟨by omega, Or.inr (by omega)⟩))
theorem sp5_helps (hPV : PV6 S) {post : Int → ((Nat → Int) × (Nat → Int) × (Nat → Int) × (Nat → Int) × (Nat → Int) × (Nat → Int) × (Nat → Int) × Int × Int × Int × Int) → Prop} (hp : ∀ (x : Int) u, LV S x → post (bs (cH S x) (S 68).toNat) (S, u)) : iv_X5_helps S gs ws nl cf cb wv wn g gb un post := by
  rw [iv_X5_helps]
  exact sp_lastOne hPV.1 (fun x u hx => ⟨(S 68).toNat + 1, helps5_L hPV hx (fun gs ws nl cf cb wv wn g gb un => hp x (gs, ws, nl, cf, cb, wv, wn, g, gb, un) hx) (S 68).toNat 0 0 _ _ _ _ _ _ _ _ _ _ (by omega) rfl⟩)
theorem sp_lastShut (hPV : PV S) {p : Nat} (hp : p < 10) {s : Int} (hs : 0 ≤ s ∧ s ≤ 1000) {post : Int → ((Nat → Int) × (Nat → Int) × (Nat → Int) × (Nat → Int) × (Nat → Int) × (Nat → Int) × (Nat → Int) × Int × Int × Int × Int) → Prop} (h : ∀ (y : Int) u, LV (uz S (58 + p) s) y → post y (S, u)) : iv_X5_lastShut p s S gs ws nl cf cb wv wn g gb un post := by
  rw [iv_X5_lastShut, show ((58 : Int) + (p : Int)).toNat = 58 + p by omega]
  refine ⟨by omega, fun x hx => ⟨by omega, sp_lastOne (hPV.setc hp hs) (fun y u hy => ⟨by omega, ?_⟩)⟩⟩
  subst hx
  rw [uz_uz, uz_id]
  exact h y u hy
theorem needed5_L (hPV : PV S) {x : Int} (hx : 0 ≤ x ∧ x ≤ 60) {K : Int → (Nat → Int) → (Nat → Int) → (Nat → Int) → (Nat → Int) → (Nat → Int) → (Nat → Int) → (Nat → Int) → Int → Int → Int → Int → Prop} (hK : ∀ gs ws nl cf cb wv wn g gb un, K (bs (cN S x) (S 68).toNat) S gs ws nl cf cb wv wn g gb un) :
    ∀ (d k : Nat) (v : Int) gs ws nl cf cb wv wn g gb un, k + d = (S 68).toNat → v = bs (cN S x) k → iv_X5_needed_L16 K x (d + 1) v k S gs ws nl cf cb wv wn g gb un := by
  have h10 := hPV.2.2.1
  have h00 := hPV.2.1
  intro d
  induction d with
  | zero =>
    intro k v gs ws nl cf cb wv wn g gb un hk hv
    rw [iv_X5_needed_L16, iv_X5_many]
    refine ⟨⟨smz (by omega) (by omega), smz (by omega) (by omega)⟩, fun _ => ?_, fun c => absurd (by omega) c⟩
    have : k = (S 68).toNat := by omega
    subst this hv
    exact hK _ _ _ _ _ _ _ _ _ _
  | succ d ih =>
    intro k v gs ws nl cf cb wv wn g gb un hk hv
    rw [iv_X5_needed_L16, iv_X5_many]
    have hk10 : k < 10 := by omega
    refine ⟨⟨smz (by omega) (by omega), smz (by omega) (by omega)⟩, fun c => by omega, fun _ => ?_⟩
    refine sp_lastShut hPV hk10 (by omega) (fun y u hy => ?_)
    have hyb := hy.b
    have hiff := cN_iff hx hy
    rw [Int.toNat_natCast]
    have hzn : zn v := by rw [hv]; exact bs_zn _ (by omega)
    have hvz : zor v 0 = v := zor_z hzn.1
    have h0 : ¬ cN S x k → v = bs (cN S x) (k + 1) := fun z => by rw [bs, if_neg z, hv]
    have h1 : cN S x k → zor v (2 ^ k) = bs (cN S x) (k + 1) := fun z => by rw [bs, if_pos z, hv]
    refine ⟨⟨smz (by omega) (by omega), sm0⟩, fun c1 => ⟨by omega, ⟨hzn, p2_zn (by omega)⟩, fun a ha b hb => ?_⟩, fun c1 => ⟨⟨smz (by omega) (by omega), smz (by omega) (by omega)⟩, fun c2 => ⟨⟨hzn, by unfold zn; omega⟩, fun a ha b hb => ?_⟩, fun c2 => ⟨by omega, ⟨hzn, p2_zn (by omega)⟩, fun a ha b hb => ?_⟩⟩⟩
    · subst hb
      exact ih (k + 1) a _ _ _ _ _ _ _ _ _ _ (by omega) (by rw [ha]; exact h1 (hiff.mpr (Or.inl c1)))
    · subst hb
      exact ih (k + 1) a _ _ _ _ _ _ _ _ _ _ (by omega) (by rw [ha, hvz]; exact h0 (fun z => by have := hiff.mp z; omega))
    · subst hb
      exact ih (k + 1) a _ _ _ _ _ _ _ _ _ _ (by omega) (by rw [ha]; exact h1 (hiff.mpr (Or.inr (by omega))))
theorem sp5_needed (hPV : PV S) {post : Int → ((Nat → Int) × (Nat → Int) × (Nat → Int) × (Nat → Int) × (Nat → Int) × (Nat → Int) × (Nat → Int) × Int × Int × Int × Int) → Prop} (hp : ∀ (x : Int) u, LV S x → post (if x = -6 then -6 else bs (cN S x) (S 68).toNat) (S, u)) : iv_X5_needed S gs ws nl cf cb wv wn g gb un post := by
  rw [iv_X5_needed]
  refine sp_lastOne hPV (fun x u hx => ?_)
  have hb := hx.b
  refine ⟨⟨sm0, smz (by omega) (by omega)⟩, fun c => ⟨(S 68).toNat + 1, needed5_L hPV (by omega) (fun gs ws nl cf cb wv wn g gb un => ?_) (S 68).toNat 0 0 _ _ _ _ _ _ _ _ _ _ (by omega) rfl⟩, fun c => ?_⟩
  · have := hp x (gs, ws, nl, cf, cb, wv, wn, g, gb, un) hx
    rw [if_neg (by omega)] at this
    exact this
  · have := hp x u hx
    rw [if_pos (by omega)] at this
    exact this
theorem door5_L (hPV : PV S) {x : Int} (hx : 0 ≤ x ∧ x ≤ 60) {p : Nat} (hp : p < 10) {K : Int → (Nat → Int) → (Nat → Int) → (Nat → Int) → (Nat → Int) → (Nat → Int) → (Nat → Int) → (Nat → Int) → Int → Int → Int → Int → Prop} (hK : ∀ (y : Int) gs ws nl cf cb wv wn g gb un, 0 ≤ y → y ≤ 61 → (y ≤ 60 → AZ (uz S (58 + p) y) x.toNat) → (∀ s : Nat, (s : Int) < y → ¬ AZ (uz S (58 + p) s) x.toNat) → K y S gs ws nl cf cb wv wn g gb un) :
    ∀ (d : Nat) (lo hi : Int) gs ws nl cf cb wv wn g gb un, -1 ≤ lo → lo < hi → hi ≤ 61 → hi - lo ≤ d + 1 → (hi ≤ 60 → AZ (uz S (58 + p) hi) x.toNat) → (∀ s : Nat, (s : Int) ≤ lo → ¬ AZ (uz S (58 + p) s) x.toNat) → iv_X5_door_L28 K p x (d + 1) lo hi S gs ws nl cf cb wv wn g gb un := by
  intro d
  induction d with
  | zero =>
    intro lo hi gs ws nl cf cb wv wn g gb un h1 h2 h3 h4 h5 h6
    rw [iv_X5_door_L28]
    exact ⟨⟨smz (by omega) (by omega), sm1⟩, fun _ => hK hi _ _ _ _ _ _ _ _ _ _ (by omega) (by omega) h5 (fun s hs => h6 s (by omega)), fun c => absurd (by omega) c⟩
  | succ d ih =>
    intro lo hi gs ws nl cf cb wv wn g gb un h1 h2 h3 h4 h5 h6
    rw [iv_X5_door_L28]
    refine ⟨⟨smz (by omega) (by omega), sm1⟩, fun _ => hK hi _ _ _ _ _ _ _ _ _ _ (by omega) (by omega) h5 (fun s hs => h6 s (by omega)), fun c => ⟨by unfold zn; omega, fun mid hm => ?_⟩⟩
    refine sp_lastShut hPV hp (by omega) (fun y u hy => ?_)
    have hyb := hy.b
    have hle := hy.le (t := x.toNat) (by omega)
    have hbad : ¬ AZ (uz S (58 + p) mid) x.toNat → ∀ s : Nat, (s : Int) ≤ mid → ¬ AZ (uz S (58 + p) s) x.toNat := fun z s hs q => z (AZ.later hPV hp ⟨by omega, by omega⟩ hs q)
    refine ⟨⟨smz (by omega) (by omega), sm0⟩, fun c1 => ?_, fun c1 => ⟨⟨smz (by omega) (by omega), smz (by omega) (by omega)⟩, fun c2 => ?_, fun c2 => ?_⟩⟩
    · exact ih mid hi _ _ _ _ _ _ _ _ _ _ (by omega) (by omega) h3 (by omega) h5 (hbad (fun z => by have := hle.mp z; omega))
    · exact ih lo mid _ _ _ _ _ _ _ _ _ _ h1 (by omega) (by omega) (by omega) (fun _ => hle.mpr ⟨by omega, by omega⟩) h6
    · exact ih mid hi _ _ _ _ _ _ _ _ _ _ (by omega) (by omega) h3 (by omega) h5 (hbad (fun z => by have := hle.mp z; omega))
theorem sp5_door (hPV : PV S) {a1 : Int} (ha : sm a1) {post : Int → ((Nat → Int) × (Nat → Int) × (Nat → Int) × (Nat → Int) × (Nat → Int) × (Nat → Int) × (Nat → Int) × Int × Int × Int × Int) → Prop} (h0 : ∀ u, ¬ (0 ≤ a1 ∧ a1 < S 68) → post (-1) (S, u)) (h1 : ∀ (x : Int) u, 0 ≤ a1 → a1 < S 68 → LV S x → x = -6 → post (-6) (S, u)) (h2 : ∀ (x y : Int) u, 0 ≤ a1 → a1 < S 68 → LV S x → x ≠ -6 → dR S x a1.toNat y → post y (S, u)) : iv_X5_door a1 S gs ws nl cf cb wv wn g gb un post := by
  have h10 := hPV.2.2.1
  have h00 := hPV.2.1
  rw [iv_X5_door, iv_X5_isPassage, iv_X5_many]
  refine sp_in ha sm0 (smz (by omega) (by omega)) (fun c1 c2 => ⟨Or.inr rfl, ⟨sm1, sm0⟩, fun _ => ?_, fun z => absurd z (by decide)⟩) (fun c => ⟨Or.inl rfl, ⟨sm0, sm0⟩, fun z => absurd rfl z, fun _ => h0 (gs, ws, nl, cf, cb, wv, wn, g, gb, un) (by omega)⟩)
  refine sp_lastOne hPV (fun x u hx => ?_)
  have hb := hx.b
  refine ⟨⟨sm0, smz (by omega) (by omega)⟩, fun c => ?_, fun c => h1 x u c1 (by omega) hx (by omega)⟩
  obtain ⟨p, rfl⟩ : ∃ p : Nat, a1 = p := ⟨a1.toNat, by omega⟩
  have hp10 : p < 10 := by omega
  have hlim := hPV.2.2.2 p (by omega)
  have hAx : AZ S x.toNat := (hx.le (by omega)).mpr ⟨c, by omega⟩
  have h60 := AZ.sixty hPV (p := p) (by omega) (x := x.toNat) (by omega) hAx
  refine ⟨62, door5_L hPV (by omega) hp10 (fun y gs ws nl cf cb wv wn g gb un k1 k2 k3 k4 => ?_) 61 (-1) 61 _ _ _ _ _ _ _ _ _ _ (by omega) (by omega) (by omega) (by omega) (fun z => absurd z (by omega)) (fun s hs => by omega)⟩
  have hy60 : y ≤ 60 := by
    by_cases q : y ≤ 60
    · exact q
    · exact absurd h60 (k4 60 (by omega))
  refine ⟨⟨smz (by omega) (by omega), smz (by omega) (by omega)⟩, fun z => absurd hy60 (by omega), fun _ => ?_⟩
  refine sp_lastShut hPV hp10 (by omega) (fun z u hz => ?_)
  have hzb := hz.b
  have hyS : y ≤ S (58 + p) := by
    by_cases q : y ≤ S (58 + p)
    · exact q
    · have := k4 (S (58 + p)).toNat (by omega)
      rw [show (((S (58 + p)).toNat : Nat) : Int) = S (58 + p) by omega, uz_id] at this
      exact absurd hAx this
  have hzx := (hz.le (t := x.toNat) (by omega)).mp (k3 hy60)
  have hz2 : AZ (uz S (58 + p) y) z.toNat := (hz.le (by omega)).mpr ⟨by omega, by omega⟩
  have hz3 := (hx.le (t := z.toNat) (by omega)).mp (AZ.now hPV hp10 k1 hyS (by omega) hz2)
  have hzx2 : z = x := by omega
  refine ⟨⟨smz (by omega) (by omega), smz (by omega) (by omega)⟩, fun c => absurd hzx2 c, fun _ => ?_⟩
  refine h2 x y u c1 (by omega) hx (by omega) ⟨y.toNat, by omega, by omega, ?_, fun s' hs' => ?_⟩
  · rw [show ((y.toNat : Nat) : Int) = y by omega, Int.toNat_natCast]; exact k3 hy60
  · rw [Int.toNat_natCast]; exact k4 s' (by omega)
end RH
