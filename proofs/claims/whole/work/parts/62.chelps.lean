/-! THE CLASS'S HELPS, NEEDED, DOOR -/
theorem sp_leadsAllByQ {S F G L Wd Sh : Nat → Int} {T : Nat} {n m P : Int} (hPV : PV S) (hA : FAg S F G L Wd Sh) (hT : T ≤ 60) (hn : n = 6 + S 68) (hm : m = smS S) (hP : P = sg S 6) {led : Int} {nl E La St WE WA : Nat → Int} {ws ww : Int} (hled : led = sg S 6 - sg nl 6) (hF : FS S (suS S) T E nl) {post : Int → (Int × (Nat → Int) × (Nat → Int) × (Nat → Int) × (Nat → Int) × (Nat → Int) × (Nat → Int) × Int × Int) → Prop}
    (hp1 : ∀ u, AZ S T → post 1 u) (hp0 : ∀ u, ¬ AZ S T → post 0 u) : iv_X0_leadsAllBy T n F G Wd L Sh m P led nl E La St WE WA ws ww post := by
  subst hn hm hP
  exact sp_leadsAllByS hPV hA hT hled hF (fun _ _ _ _ _ _ _ _ _ _ _ _ q => hp1 _ q) (fun _ _ _ _ _ _ _ _ _ _ _ q => hp0 _ q)
/-- the set of those below n that keep c, as a number -/
noncomputable def bs (c : Nat → Prop) : Nat → Int
  | 0 => 0
  | n + 1 => @ite Int (c n) (Classical.propDecidable (c n)) (zor (bs c n) (2 ^ n)) (bs c n)
theorem zor_b {a b : Int} {n : Nat} (ha : 0 ≤ a ∧ a < 2 ^ n) (hb : 0 ≤ b ∧ b < 2 ^ n) : 0 ≤ zor a b ∧ zor a b < 2 ^ n := by
  unfold zor
  have h1 : a.toNat < 2 ^ n := by have := Int.toNat_of_nonneg ha.1; have e : ((2 ^ n : Nat) : Int) = 2 ^ n := by norm_cast
                                  omega
  have h2 : b.toNat < 2 ^ n := by have := Int.toNat_of_nonneg hb.1; have e : ((2 ^ n : Nat) : Int) = 2 ^ n := by norm_cast
                                  omega
  have h3 := Nat.or_lt_two_pow h1 h2
  have e : ((2 ^ n : Nat) : Int) = 2 ^ n := by norm_cast
  omega
theorem p2_pos (n : Nat) : (0 : Int) < 2 ^ n := Int.pow_pos (by omega)
theorem p2_succ (n : Nat) : (2 : Int) ^ (n + 1) = 2 ^ n * 2 := Int.pow_succ 2 n
theorem bs_b (c : Nat → Prop) : ∀ n, 0 ≤ bs c n ∧ bs c n < 2 ^ n
  | 0 => ⟨Int.le_refl _, show (0 : Int) < 1 by decide⟩
  | n + 1 => by
    have h := bs_b c n
    have := p2_pos n
    have := p2_succ n
    rw [bs]
    by_cases q : c n
    · rw [if_pos q]; exact zor_b ⟨h.1, by omega⟩ ⟨by omega, by omega⟩
    · rw [if_neg q]; exact ⟨h.1, by omega⟩
theorem p2_le {n : Nat} (h : n ≤ 10) : (2 : Int) ^ n ≤ 1024 := by
  have : ∀ n, n ≤ 10 → (2 : Int) ^ n ≤ 1024 := by decide
  exact this n h
theorem bs_zn (c : Nat → Prop) {n : Nat} (h : n ≤ 10) : zn (bs c n) := by
  have := bs_b c n
  have := p2_le h
  unfold zn; omega
theorem p2_zn {n : Nat} (h : n ≤ 10) : zn (2 ^ n) := by
  have := p2_pos n
  have := p2_le h
  unfold zn; omega
theorem zor_z {a : Int} (h : 0 ≤ a) : zor a 0 = a := by
  unfold zor
  show ((a.toNat ||| 0 : Nat) : Int) = a
  rw [Nat.or_zero]; omega
theorem bs_congr {c c' : Nat → Prop} : ∀ {n : Nat}, (∀ p, p < n → (c p ↔ c' p)) → bs c n = bs c' n
  | 0, _ => rfl
  | n + 1, h => by
    rw [bs, bs, bs_congr (fun p hp => h p (by omega))]
    by_cases q : c n
    · rw [if_pos q, if_pos ((h n (by omega)).mp q)]
    · rw [if_neg q, if_neg (fun z => q ((h n (by omega)).mpr z))]
theorem bs_none {c : Nat → Prop} : ∀ {n : Nat}, (∀ p, p < n → ¬ c p) → bs c n = 0
  | 0, _ => rfl
  | n + 1, h => by rw [bs, if_neg (h n (by omega)), bs_none (fun p hp => h p (by omega))]
def PV6 (S : Nat → Int) : Prop := PV S ∧ ∀ p : Nat, (p : Int) < S 68 → S (38 + p) ≤ 6
theorem PV.setw {S : Nat → Int} (h : PV S) {p : Nat} (hp : p < 10) {w : Int} (hw : 1 ≤ w ∧ w ≤ 7) : PV (uz S (38 + p) w) := by
  obtain ⟨a, b, c, d⟩ := h
  refine ⟨fun r hr => ?_, ?_, ?_, fun q hq => ?_⟩
  · rw [uz_n (by omega), uz_n (by omega), uz_n (by omega)]; exact a r hr
  · rw [uz_n (by omega)]; exact b
  · rw [uz_n (by omega)]; exact c
  · rw [uz_n (by omega)] at hq
    have := d q hq
    rw [uz_n (j := 18 + q) (by omega), uz_n (j := 28 + q) (by omega), uz_n (j := 48 + q) (by omega), uz_n (j := 58 + q) (by omega)]
    by_cases z : q = p
    · subst z; rw [uz_s]; omega
    · rw [uz_n (by omega)]; exact this
theorem PV.setc {S : Nat → Int} (h : PV S) {p : Nat} (hp : p < 10) {s : Int} (hw : 0 ≤ s ∧ s ≤ 1000) : PV (uz S (58 + p) s) := by
  obtain ⟨a, b, c, d⟩ := h
  refine ⟨fun r hr => ?_, ?_, ?_, fun q hq => ?_⟩
  · rw [uz_n (by omega), uz_n (by omega), uz_n (by omega)]; exact a r hr
  · rw [uz_n (by omega)]; exact b
  · rw [uz_n (by omega)]; exact c
  · rw [uz_n (by omega)] at hq
    have := d q hq
    rw [uz_n (j := 18 + q) (by omega), uz_n (j := 28 + q) (by omega), uz_n (j := 38 + q) (by omega), uz_n (j := 48 + q) (by omega)]
    by_cases z : q = p
    · subst z; rw [uz_s]; omega
    · rw [uz_n (by omega)]; exact this
theorem smS_u {S : Nat → Int} {k : Nat} {z : Int} (h : 18 ≤ k) : smS (uz S k z) = smS S := by
  unfold smS
  rw [uz_n (by omega), uz_n (by omega), uz_n (by omega), uz_n (by omega), uz_n (by omega), uz_n (by omega)]
theorem sg_u {S : Nat → Int} {k : Nat} {z : Int} (h : 6 ≤ k) : sg (uz S k z) 6 = sg S 6 := sg_congr (fun r hr => uz_n (by omega))
theorem FAg.cgr {S F G L Wd Sh F' G' L' Wd' Sh' : Nat → Int} (h : FAg S F G L Wd Sh) (hc : ∀ l, l < 16 → F' l = F l ∧ G' l = G l ∧ L' l = L l ∧ Wd' l = Wd l ∧ Sh' l = Sh l) : FAg S F' G' L' Wd' Sh' := by
  intro l hl
  obtain ⟨a1, a2, a3, a4, a5⟩ := hc l hl
  rw [a1, a2, a3, a4, a5]
  exact h l hl
theorem FAg.setw {S F G L Wd Sh : Nat → Int} (h : FAg S F G L Wd Sh) {p : Nat} (hp : p < 10) {w : Int} : FAg (uz S (38 + p) w) F G L (uz Wd (6 + p) w) Sh := by
  intro l hl
  have := h l hl
  by_cases q : l < 6
  · rw [rz_lo q, rz_lo q, lz_lo q, lz_lo q, lz_lo q] at this
    rw [rz_lo q, rz_lo q, lz_lo q, lz_lo q, lz_lo q]
    rw [uz_n (by omega)]
    exact this
  · obtain ⟨k, rfl⟩ : ∃ k, l = 6 + k := ⟨l - 6, by omega⟩
    rw [rz_hi, rz_hi, lz_hi, lz_hi, lz_hi] at this
    rw [rz_hi, rz_hi, lz_hi, lz_hi, lz_hi]
    rw [uz_n (j := 18 + k) (by omega), uz_n (j := 28 + k) (by omega), uz_n (j := 48 + k) (by omega), uz_n (j := 58 + k) (by omega)]
    by_cases z : k = p
    · subst z; rw [uz_s, uz_s]; exact ⟨this.1, this.2.1, this.2.2.1, rfl, this.2.2.2.2⟩
    · rw [uz_n (by omega), uz_n (by omega)]; exact this
theorem FAg.setc {S F G L Wd Sh : Nat → Int} (h : FAg S F G L Wd Sh) {p : Nat} (hp : p < 10) {w : Int} : FAg (uz S (58 + p) w) F G L Wd (uz Sh (6 + p) w) := by
  intro l hl
  have := h l hl
  by_cases q : l < 6
  · rw [rz_lo q, rz_lo q, lz_lo q, lz_lo q, lz_lo q] at this
    rw [rz_lo q, rz_lo q, lz_lo q, lz_lo q, lz_lo q]
    rw [uz_n (by omega)]
    exact this
  · obtain ⟨k, rfl⟩ : ∃ k, l = 6 + k := ⟨l - 6, by omega⟩
    rw [rz_hi, rz_hi, lz_hi, lz_hi, lz_hi] at this
    rw [rz_hi, rz_hi, lz_hi, lz_hi, lz_hi]
    rw [uz_n (j := 18 + k) (by omega), uz_n (j := 28 + k) (by omega), uz_n (j := 48 + k) (by omega), uz_n (j := 38 + k) (by omega)]
    by_cases z : k = p
    · subst z; rw [uz_s, uz_s]; exact ⟨this.1, this.2.1, this.2.2.1, this.2.2.2.1, rfl⟩
    · rw [uz_n (by omega), uz_n (by omega)]; exact this
theorem FS.wide {S : Nat → Int} (hPV : PV S) {T : Nat} {E nl E' nl' : Nat → Int} (h : FS S (suS S) T E nl) {p : Nat} (hp : p < 10) (hE : ∀ e, e < 976 → E' e = E e) (hnl : ∀ r, r < 6 → nl' r = nl r) : FS (uz S (38 + p) (S (38 + p) + 1)) (suS (uz S (38 + p) (S (38 + p) + 1))) T E' nl' := by
  have hb := h.bounds hPV
  refine FS.chg (Nat.le_refl _) h (uz_n (by omega)) hPV.2.2.1 (fun r hr => ⟨uz_n (by omega), uz_n (by omega)⟩) (fun q hq => ⟨uz_n (by omega), uz_n (by omega), uz_n (by omega), ?_⟩) (fun q t hq ht hne => ?_) hE hnl
  · by_cases z : q = p
    · subst z; rw [uz_s]; omega
    · rw [uz_n (by omega)]; omega
  · have := (h.2.1 _ (by omega) hne).2.2.1
    rw [show ((6 + q) * 61 + t) % 61 = t by omega, show ((6 + q) * 61 + t) / 61 = 6 + q by omega, lz_hi] at this
    rw [uz_n (by omega)]; exact this
/-- who shuts a lane after its last use keeps the flow -/
theorem FS.shut {S : Nat → Int} (hPV : PV S) {T : Nat} {E nl E' nl' : Nat → Int} (h : FS S (suS S) T E nl) {p : Nat} (hp : p < 10) {s : Int} (hs : ∀ t : Nat, t < 61 → s ≤ t → E ((6 + p) * 61 + t) = 0) (hE : ∀ e, e < 976 → E' e = E e) (hnl : ∀ r, r < 6 → nl' r = nl r) : FS (uz S (58 + p) s) (suS (uz S (58 + p) s)) T E' nl' := by
  refine FS.chg (Nat.le_refl _) h (uz_n (by omega)) hPV.2.2.1 (fun r hr => ⟨uz_n (by omega), uz_n (by omega)⟩) (fun q hq => ⟨uz_n (by omega), uz_n (by omega), uz_n (by omega), ?_⟩) (fun q t hq ht hne => ?_) hE hnl
  · rw [uz_n (by omega)]; omega
  · have := (h.2.1 _ (by omega) hne).2.2.1
    rw [show ((6 + q) * 61 + t) % 61 = t by omega, show ((6 + q) * 61 + t) / 61 = 6 + q by omega, lz_hi] at this
    by_cases z : q = p
    · subst z; rw [uz_s]
      by_cases w : s ≤ t
      · exact absurd (hs t ht w) hne
      · omega
    · rw [uz_n (by omega)]; exact this
theorem FS.use {S : Nat → Int} {T : Nat} {E nl : Nat → Int} (h : FS S (suS S) T E nl) {q t : Nat} (hq : q < 10) (ht : t < 61) (hne : E ((6 + q) * 61 + t) ≠ 0) : (t : Int) < S (58 + q) ∧ t + (S (48 + q)).toNat ≤ T := by
  have := (h.2.1 _ (by omega) hne).2.2
  rw [show ((6 + q) * 61 + t) % 61 = t by omega, show ((6 + q) * 61 + t) / 61 = 6 + q by omega, lz_hi] at this
  refine ⟨this.1, ?_⟩
  have h2 : t + (lz S 1 48 (6 + q)).toNat ≤ T := this.2
  rw [show lz S 1 48 (6 + q) = S (48 + q) from lz_hi] at h2
  exact h2
theorem AZ.later {S : Nat → Int} (hPV : PV S) {p : Nat} (hp : p < 10) {s s' : Int} (h0 : 0 ≤ s ∧ s ≤ 1000) (hs : s ≤ s') {x : Nat} (h : AZ (uz S (58 + p) s) x) : AZ (uz S (58 + p) s') x := by
  obtain ⟨E, nl, a1, a2⟩ := h
  have := FS.shut (hPV.setc hp h0) a1 hp (s := s') (E' := E) (nl' := nl) (fun t ht w => by
    by_cases z : E ((6 + p) * 61 + t) = 0
    · exact z
    · have := (a1.use hp ht z).1
      rw [uz_s] at this
      omega) (fun _ _ => rfl) (fun _ _ => rfl)
  rw [uz_uz] at this
  exact ⟨E, nl, this, a2⟩
theorem AZ.now {S : Nat → Int} (hPV : PV S) {p : Nat} (hp : p < 10) {s : Int} (h0 : 0 ≤ s) (hs : s ≤ S (58 + p)) (hb : S (58 + p) ≤ 1000) {x : Nat} (h : AZ (uz S (58 + p) s) x) : AZ S x := by
  have := AZ.later hPV hp (s' := S (58 + p)) ⟨h0, by omega⟩ hs h
  rw [uz_id] at this
  exact this
theorem AZ.sixty {S : Nat → Int} (hPV : PV S) {p : Nat} (hp : (p : Int) < S 68) {x : Nat} (hx : x ≤ 60) (h : AZ S x) : AZ (uz S (58 + p) 60) x := by
  have hb := hPV.2.2.2 p hp
  have hp10 : p < 10 := by have := hPV.2.2.1; omega
  obtain ⟨E, nl, a1, a2⟩ := h
  exact ⟨E, nl, FS.shut hPV a1 hp10 (fun t ht w => by
    by_cases z : E ((6 + p) * 61 + t) = 0
    · exact z
    · have := (a1.use hp10 ht z).2
      omega) (fun _ _ => rfl) (fun _ _ => rfl), a2⟩
section CH
variable {S pe : Nat → Int} {m P : Int} {qf qt qw ql qs : Nat → Int}
theorem sp_canDoShut {gl : Int} {gF gG gW gL gS : Nat → Int} {gsr gpe gld : Int} {gnl gE gLa gSt gWE gWA : Nat → Int} {gws gww : Int} (hPV : PV S) (hq : PQ pe m P qf qt qw ql qs S) (hg : FI gF gG gL gW gS) {p : Nat} (hp : p < 10) {s : Int} (hs : 0 ≤ s ∧ s ≤ 1000) {x : Nat} (hx : x ≤ 60) {post : Int → FT → Prop}
    (h1 : ∀ u : FT, FIt u → AZ (uz S (58 + p) s) x → post 1 u) (h0 : ∀ u : FT, FIt u → ¬ AZ (uz S (58 + p) s) x → post 0 u) : iv_X4_canDoShut p s x pe m P qf qt qw ql qs gl gF gG gW gL gS gsr gpe gld gnl gE gLa gSt gWE gWA gws gww post := by
  rw [iv_X4_canDoShut]
  refine sp_beginS hPV hq hg (fun F G Wd L Sh nl E led hA hl hE hn => ?_)
  show iv_X0_setShut _ _ _ _
  rw [iv_X0_setShut, show ((6 : Int) + (p : Int)).toNat = 6 + p by omega]
  have hA2 := hA.setc hp (w := s)
  have hF := FS.zero (T := x) hPV hE hn
  have hF2 : FS (uz S (58 + p) s) (suS (uz S (58 + p) s)) x E nl := FS.shut hPV hF hp (fun t ht _ => hE _ (by omega)) (fun _ _ => rfl) (fun _ _ => rfl)
  refine ⟨by omega, sp_leadsAllByQ (hPV.setc hp hs) hA2 hx (by rw [uz_n (by omega)]) (smS_u (by omega)).symm (sg_u (by omega)).symm (by rw [sg_u (by omega)]; exact hl) hF2 (fun u hu => ⟨Or.inr rfl, h1 _ hA2.fi hu⟩) (fun u hu => ⟨Or.inl rfl, h0 _ hA2.fi hu⟩)⟩
theorem helps_L {F G L Wd Sh : Nat → Int} (hPV : PV6 S) (hA : FAg S F G L Wd Sh) (hw : ∀ p, p < 10 → qw p = S (38 + p)) {b : Nat} (hb : b ≤ 60) {led : Int} {nl E : Nat → Int} (hl : led = sg S 6 - sg nl 6) (hF : FS S (suS S) b E nl) {c : Nat → Prop} (hc : ∀ p, p < 10 → (c p ↔ AZ (uz S (38 + p) (S (38 + p) + 1)) b)) {K : Int → Int → (Nat → Int) → (Nat → Int) → (Nat → Int) → (Nat → Int) → (Nat → Int) → Int → Int → Int → (Nat → Int) → (Nat → Int) → (Nat → Int) → (Nat → Int) → (Nat → Int) → (Nat → Int) → Int → Int → Prop}
    (hK : ∀ gl gF gG gW gL gS gsr gpe gld gnl gE gLa gSt gWE gWA gws gww, FI gF gG gL gW gS → K (bs c (S 68).toNat) gl gF gG gW gL gS gsr gpe gld gnl gE gLa gSt gWE gWA gws gww) :
    ∀ (d k : Nat) (v : Int) gl gF gG gW gL gS gsr gpe gld gnl gE gLa gSt gWE gWA gws gww, k + d = (S 68).toNat → v = bs c k → FI gF gG gL gW gS → iv_X4_helps_L49 K b (S 68) qw (6 + S 68) F G Wd L Sh (smS S) (sg S 6) led nl E (d + 1) v k gl gF gG gW gL gS gsr gpe gld gnl gE gLa gSt gWE gWA gws gww := by
  have h10 := hPV.1.2.2.1
  have h00 := hPV.1.2.1
  intro d
  induction d with
  | zero =>
    intro k v gl gF gG gW gL gS gsr gpe gld gnl gE gLa gSt gWE gWA gws gww hk hv hg
    rw [iv_X4_helps_L49]
    refine ⟨⟨smz (by omega) (by omega), smz (by omega) (by omega)⟩, fun _ => ?_, fun c => absurd (by omega) c⟩
    have : k = (S 68).toNat := by omega
    subst this hv
    exact hK _ _ _ _ _ _ _ _ _ _ _ _ _ _ _ _ _ hg
  | succ d ih =>
    intro k v gl gF gG gW gL gS gsr gpe gld gnl gE gLa gSt gWE gWA gws gww hk hv hg
    rw [iv_X4_helps_L49]
    have hk10 : k < 10 := by omega
    have h6 := hPV.2 k (by omega)
    have h1 := hPV.1.2.2.2 k (by omega)
    refine ⟨⟨smz (by omega) (by omega), smz (by omega) (by omega)⟩, fun c => by omega, fun _ => ?_⟩
    rw [iv_X0_copy]
    refine ⟨by omega, ?_⟩
    rw [iv_X0_setWidth, Int.toNat_natCast, hw k hk10, show ((6 : Int) + (k : Int)).toNat = 6 + k by omega]
    have cp : ∀ (f g : Nat → Int) (n l : Nat), l < n → va_cpy f g 0 0 n l = f l := by
      intro f g n l hl
      rw [pk_cpy_in (by omega) (by omega)]
      congr 1
      omega
    have hA2 : FAg (uz S (38 + k) (S (38 + k) + 1)) (va_cpy F gF 0 0 16) (va_cpy G gG 0 0 16) (va_cpy L gL 0 0 16) (uz (va_cpy Wd gW 0 0 16) (6 + k) (S (38 + k) + 1)) (va_cpy Sh gS 0 0 16) :=
      FAg.setw (hA.cgr (fun l hl => ⟨cp _ _ _ _ hl, cp _ _ _ _ hl, cp _ _ _ _ hl, cp _ _ _ _ hl, cp _ _ _ _ hl⟩)) hk10
    have hF2 : FS (uz S (38 + k) (S (38 + k) + 1)) (suS (uz S (38 + k) (S (38 + k) + 1))) b (va_cpy E gE 0 0 976) (va_cpy nl gnl 0 0 6) := FS.wide hPV.1 hF hk10 (fun e he => cp _ _ _ _ he) (fun r hr => cp _ _ _ _ hr)
    have esg : sg (va_cpy nl gnl 0 0 6) 6 = sg nl 6 := sg_congr (fun r hr => cp _ _ _ _ hr)
    refine ⟨by omega, sp_leadsAllByQ (hPV.1.setw hk10 (by omega)) hA2 hb (by rw [uz_n (by omega)]) (smS_u (by omega)).symm (sg_u (by omega)).symm (by rw [sg_u (by omega), esg]; exact hl) hF2 (fun u hu => ?_) (fun u hu => ?_)⟩
    · refine ⟨⟨sm1, sm0⟩, fun z => absurd z (by decide), fun _ => ⟨by omega, ⟨by rw [hv]; exact bs_zn c (by omega), p2_zn (by omega)⟩, fun x hx y hy => ?_⟩⟩
      subst hy
      refine ih (k + 1) x _ _ _ _ _ _ _ _ _ _ _ _ _ _ _ _ _ (by omega) ?_ hA2.fi
      rw [hx, hv, bs, if_pos ((hc k hk10).mpr hu)]
    · refine ⟨⟨sm0, sm0⟩, fun _ y hy => ?_, fun z => absurd rfl z⟩
      subst hy
      refine ih (k + 1) v _ _ _ _ _ _ _ _ _ _ _ _ _ _ _ _ _ (by omega) ?_ hA2.fi
      rw [hv, bs, if_neg (fun z => hu ((hc k hk10).mp z))]
/-- what HELPS tells -/
def cH (S : Nat → Int) (x : Int) (p : Nat) : Prop := (x = -6 ∧ AZ (uz S (38 + p) (S (38 + p) + 1)) 60) ∨ ∃ t : Nat, x = t + 1 ∧ AZ (uz S (38 + p) (S (38 + p) + 1)) t
def cN (S : Nat → Int) (x : Int) (p : Nat) : Prop := ¬ AZ (uz S (58 + p) 0) x.toNat
def dR (S : Nat → Int) (x : Int) (p : Nat) (y : Int) : Prop := ∃ s : Nat, y = s ∧ s ≤ 60 ∧ AZ (uz S (58 + p) s) x.toNat ∧ ∀ s' : Nat, s' < s → ¬ AZ (uz S (58 + p) s') x.toNat
theorem dR.one {S : Nat → Int} {x : Int} {p : Nat} {y z : Int} (h : dR S x p y) (h' : dR S x p z) : y = z := by
  obtain ⟨s, a1, a2, a3, a4⟩ := h
  obtain ⟨t, b1, b2, b3, b4⟩ := h'
  by_cases q : s < t
  · exact absurd a3 (b4 s q)
  · by_cases q2 : t < s
    · exact absurd b3 (a4 t q2)
    · omega
variable {fl : Int} {fF fG fW fL fS : Nat → Int} {fsr fpe fld : Int} {fnl fE fLa fSt fWE fWA : Nat → Int} {fws fww : Int} {gl : Int} {gF gG gW gL gS : Nat → Int} {gsr gpe gld : Int} {gnl gE gLa gSt gWE gWA : Nat → Int} {gws gww : Int}
/-- both flows' rooms are as they were made -/
def FI2 (u : Int × (Nat → Int) × (Nat → Int) × (Nat → Int) × (Nat → Int) × (Nat → Int) × Int × Int × Int × (Nat → Int) × (Nat → Int) × (Nat → Int) × (Nat → Int) × (Nat → Int) × (Nat → Int) × Int × Int × Int × (Nat → Int) × (Nat → Int) × (Nat → Int) × (Nat → Int) × (Nat → Int) × Int × Int × Int × (Nat → Int) × (Nat → Int) × (Nat → Int) × (Nat → Int) × (Nat → Int) × (Nat → Int) × Int × Int) : Prop := FI u.2.1 u.2.2.1 u.2.2.2.2.1 u.2.2.2.1 u.2.2.2.2.2.1 ∧ FIt u.2.2.2.2.2.2.2.2.2.2.2.2.2.2.2.2.2
theorem sp_helps (hPV : PV6 S) (hq : PQ pe m P qf qt qw ql qs S) (hf : FI fF fG fL fW fS) (hg : FI gF gG gL gW gS) {post : Int → (Int × (Nat → Int) × (Nat → Int) × (Nat → Int) × (Nat → Int) × (Nat → Int) × Int × Int × Int × (Nat → Int) × (Nat → Int) × (Nat → Int) × (Nat → Int) × (Nat → Int) × (Nat → Int) × Int × Int × Int × (Nat → Int) × (Nat → Int) × (Nat → Int) × (Nat → Int) × (Nat → Int) × Int × Int × Int × (Nat → Int) × (Nat → Int) × (Nat → Int) × (Nat → Int) × (Nat → Int) × (Nat → Int) × Int × Int) → Prop}
    (hp : ∀ (x : Int) u, LV S x → FI2 u → post (bs (cH S x) (S 68).toNat) u) : iv_X4_helps pe m P qf qt qw ql qs fl fF fG fW fL fS fsr fpe fld fnl fE fLa fSt fWE fWA fws fww gl gF gG gW gL gS gsr gpe gld gnl gE gLa gSt gWE gWA gws gww post := by
  have hP : P = S 68 := hq.2.2.1
  have hw : ∀ p, p < 10 → qw p = S (38 + p) := fun p hp => (hq.2.2.2 p hp).2.2.1
  rw [iv_X4_helps]
  refine sp_leadAll hPV.1 hq hf (fun x F G Wd L Sh led nl E La St WE WA ws ww hA hx hl h6 ht => ?_)
  have hxb : -6 ≤ x ∧ x ≤ 60 := by rcases hx with ⟨a, _⟩ | ⟨t, a, b, _⟩ <;> omega
  refine ⟨⟨smz (by omega) (by omega), sm0⟩, fun c0 => ⟨⟨smz (by omega) (by omega), smz (by omega) (by omega)⟩, fun c1 => ?_, fun c1 => ?_⟩, fun c0 => ?_⟩
  · rw [hP]
    refine ⟨(S 68).toNat + 1, helps_L (b := 60) (c := cH S x) hPV hA hw (by omega) hl (h6 c1) (fun p _ => ⟨fun z => ?_, fun z => Or.inl ⟨c1, z⟩⟩) (fun gl gF gG gW gL gS gsr gpe gld gnl gE gLa gSt gWE gWA gws gww hg => ?_) (S 68).toNat 0 0 gl gF gG gW gL gS gsr gpe gld gnl gE gLa gSt gWE gWA gws gww (by omega) rfl hg⟩
    · rcases z with z | ⟨t, a, b⟩
      · exact z.2
      · omega
    · exact hp x (6 + S 68, F, G, Wd, L, Sh, smS S, sg S 6, led, nl, E, La, St, WE, WA, ws, ww, gl, gF, gG, gW, gL, gS, gsr, gpe, gld, gnl, gE, gLa, gSt, gWE, gWA, gws, gww) hx ⟨hA.fi, hg⟩
  · intro y hy
    obtain ⟨t, rfl⟩ : ∃ t : Nat, x = t + 1 := ⟨(x - 1).toNat, by rcases hx with ⟨a, _⟩ | ⟨t, a, b, _⟩ <;> omega⟩
    have : y = t := by omega
    subst this
    refine sp_beginS hPV.1 hq hA.fi (fun F G Wd L Sh nl E led hA hl hE hn => ?_)
    refine sp_leadByS hPV.1 hA (by omega) hl (FS.zero hPV.1 hE hn) (fun led nl E La St WE WA ws ww q1 q2 q3 => ?_)
    rw [hP]
    refine ⟨(S 68).toNat + 1, helps_L (b := t) (c := cH S (t + 1)) hPV hA hw (by omega) q1 q2 (fun p _ => ⟨fun z => ?_, fun z => Or.inr ⟨t, rfl, z⟩⟩) (fun gl gF gG gW gL gS gsr gpe gld gnl gE gLa gSt gWE gWA gws gww hg => ?_) (S 68).toNat 0 0 gl gF gG gW gL gS gsr gpe gld gnl gE gLa gSt gWE gWA gws gww (by omega) rfl hg⟩
    · rcases z with z | ⟨t', a, b⟩
      · omega
      · have : t' = t := by omega
        subst this; exact b
    · exact hp _ (6 + S 68, F, G, Wd, L, Sh, smS S, sg S 6, led, nl, E, La, St, WE, WA, ws, ww, gl, gF, gG, gW, gL, gS, gsr, gpe, gld, gnl, gE, gLa, gSt, gWE, gWA, gws, gww) hx ⟨hA.fi, hg⟩
  · have hz : bs (cH S x) (S 68).toNat = 0 := bs_none (fun p _ z => by
      rcases z with z | ⟨t, a, b⟩ <;> omega)
    have := hp x ((6 + S 68, F, G, Wd, L, Sh, smS S, sg S 6, led, nl, E, La, St, WE, WA, ws, ww, gl, gF, gG, gW, gL, gS, gsr, gpe, gld, gnl, gE, gLa, gSt, gWE, gWA, gws, gww)) hx ⟨hA.fi, hg⟩
    rw [hz] at this
    exact this
theorem needed_L (hPV : PV S) (hq : PQ pe m P qf qt qw ql qs S) {b : Nat} (hb : b ≤ 60) {nl E : Nat → Int} (hF : FS S (suS S) b E nl) (hz : sg nl 6 = 0) {K : Int → Int → (Nat → Int) → (Nat → Int) → (Nat → Int) → (Nat → Int) → (Nat → Int) → Int → Int → Int → (Nat → Int) → (Nat → Int) → (Nat → Int) → (Nat → Int) → (Nat → Int) → (Nat → Int) → Int → Int → Prop}
    (hK : ∀ gl gF gG gW gL gS gsr gpe gld gnl gE gLa gSt gWE gWA gws gww, FI gF gG gL gW gS → K (bs (cN S b) (S 68).toNat) gl gF gG gW gL gS gsr gpe gld gnl gE gLa gSt gWE gWA gws gww) :
    ∀ (d k : Nat) (v : Int) gl gF gG gW gL gS gsr gpe gld gnl gE gLa gSt gWE gWA gws gww, k + d = (S 68).toNat → v = bs (cN S b) k → FI gF gG gL gW gS → iv_X4_needed_L18 K b pe m P qf qt qw ql qs E (d + 1) v k gl gF gG gW gL gS gsr gpe gld gnl gE gLa gSt gWE gWA gws gww := by
  have h10 := hPV.2.2.1
  have h00 := hPV.2.1
  have hP : P = S 68 := hq.2.2.1
  have hE := (hF.bounds hPV).1
  intro d
  induction d with
  | zero =>
    intro k v gl gF gG gW gL gS gsr gpe gld gnl gE gLa gSt gWE gWA gws gww hk hv hg
    rw [iv_X4_needed_L18]
    refine ⟨⟨smz (by omega) (by omega), smz (by omega) (by omega)⟩, fun _ => ?_, fun c => absurd (by omega) c⟩
    have : k = (S 68).toNat := by omega
    subst this hv
    exact hK _ _ _ _ _ _ _ _ _ _ _ _ _ _ _ _ _ hg
  | succ d ih =>
    intro k v gl gF gG gW gL gS gsr gpe gld gnl gE gLa gSt gWE gWA gws gww hk hv hg
    rw [iv_X4_needed_L18]
    have hk10 : k < 10 := by omega
    refine ⟨⟨smz (by omega) (by omega), smz (by omega) (by omega)⟩, fun c => by omega, fun _ => ?_⟩
    refine sp_lastUse hk10 hE (fun s hs1 hs2 hs3 => ?_)
    refine ⟨⟨smz (by omega) (by omega), sm0⟩, fun c0 => ?_, fun c0 => ?_⟩
    · intro x hx
      subst hx
      refine ih (k + 1) v gl gF gG gW gL gS gsr gpe gld gnl gE gLa gSt gWE gWA gws gww (by omega) ?_ hg
      rw [hv, bs, if_neg]
      intro z
      refine z ⟨E, nl, FS.shut hPV hF hk10 (fun t ht _ => hs2 t ht (by omega)) (fun _ _ => rfl) (fun _ _ => rfl), hz⟩
    · refine sp_canDoShut hPV hq hg hk10 (by omega) hb (fun u hu hz => ?_) (fun u hu hz => ?_)
      · refine ⟨⟨sm1, sm0⟩, fun _ x hx => ?_, fun z => absurd z (by decide)⟩
        subst hx
        refine ih (k + 1) v _ _ _ _ _ _ _ _ _ _ _ _ _ _ _ _ _ (by omega) ?_ hu
        rw [hv, bs, if_neg (fun z => z hz)]
      · refine ⟨⟨sm0, sm0⟩, fun z => absurd rfl z, fun _ => ⟨by omega, ⟨by rw [hv]; exact bs_zn _ (by omega), p2_zn (by omega)⟩, fun x hx y hy => ?_⟩⟩
        subst hy
        refine ih (k + 1) x _ _ _ _ _ _ _ _ _ _ _ _ _ _ _ _ _ (by omega) ?_ hu
        have : cN S b k := hz
        rw [hx, hv, bs, if_pos this]
        rfl
theorem sp_needed (hPV : PV S) (hq : PQ pe m P qf qt qw ql qs S) (hf : FI fF fG fL fW fS) (hg : FI gF gG gL gW gS) {post : Int → (Int × (Nat → Int) × (Nat → Int) × (Nat → Int) × (Nat → Int) × (Nat → Int) × Int × Int × Int × (Nat → Int) × (Nat → Int) × (Nat → Int) × (Nat → Int) × (Nat → Int) × (Nat → Int) × Int × Int × Int × (Nat → Int) × (Nat → Int) × (Nat → Int) × (Nat → Int) × (Nat → Int) × Int × Int × Int × (Nat → Int) × (Nat → Int) × (Nat → Int) × (Nat → Int) × (Nat → Int) × (Nat → Int) × Int × Int) → Prop}
    (hp : ∀ (x : Int) u, LV S x → FI2 u → post (if x = -6 then -6 else bs (cN S x) (S 68).toNat) u) : iv_X4_needed pe m P qf qt qw ql qs fl fF fG fW fL fS fsr fpe fld fnl fE fLa fSt fWE fWA fws fww gl gF gG gW gL gS gsr gpe gld gnl gE gLa gSt gWE gWA gws gww post := by
  rw [iv_X4_needed]
  refine sp_leadAll hPV hq hf (fun x F G Wd L Sh led nl E La St WE WA ws ww hA hx hl h6 ht => ?_)
  have hxb : -6 ≤ x ∧ x ≤ 60 := by rcases hx with ⟨a, _⟩ | ⟨t, a, b, _⟩ <;> omega
  refine ⟨⟨smz (by omega) (by omega), smz (by omega) (by omega)⟩, fun c0 => ?_, fun c0 => ?_⟩
  · obtain ⟨t, rfl⟩ : ∃ t : Nat, x = t := by
      rcases hx with ⟨a, _⟩ | ⟨t, a, b, _⟩
      · exact absurd a c0
      · exact ⟨t, a⟩
    obtain ⟨w1, w2, w3⟩ := ht t rfl
    refine ⟨(S 68).toNat + 1, needed_L hPV hq w1 w2 w3 (fun gl gF gG gW gL gS gsr gpe gld gnl gE gLa gSt gWE gWA gws gww hg => ?_) (S 68).toNat 0 0 gl gF gG gW gL gS gsr gpe gld gnl gE gLa gSt gWE gWA gws gww (by omega) rfl hg⟩
    have := hp t ((6 + S 68, F, G, Wd, L, Sh, smS S, sg S 6, led, nl, E, La, St, WE, WA, ws, ww, gl, gF, gG, gW, gL, gS, gsr, gpe, gld, gnl, gE, gLa, gSt, gWE, gWA, gws, gww)) hx ⟨hA.fi, hg⟩
    rw [if_neg c0] at this
    exact this
  · have := hp x ((6 + S 68, F, G, Wd, L, Sh, smS S, sg S 6, led, nl, E, La, St, WE, WA, ws, ww, gl, gF, gG, gW, gL, gS, gsr, gpe, gld, gnl, gE, gLa, gSt, gWE, gWA, gws, gww)) hx ⟨hA.fi, hg⟩
    rw [if_pos c0] at this
    exact this
theorem door_L (hPV : PV S) (hq : PQ pe m P qf qt qw ql qs S) {p : Nat} (hp : p < 10) {b : Nat} (hb : b ≤ 60) {K : Int → Int → (Nat → Int) → (Nat → Int) → (Nat → Int) → (Nat → Int) → (Nat → Int) → Int → Int → Int → (Nat → Int) → (Nat → Int) → (Nat → Int) → (Nat → Int) → (Nat → Int) → (Nat → Int) → Int → Int → Prop}
    (hK : ∀ (y : Int) gl gF gG gW gL gS gsr gpe gld gnl gE gLa gSt gWE gWA gws gww, dR S b p y → FI gF gG gL gW gS → K y gl gF gG gW gL gS gsr gpe gld gnl gE gLa gSt gWE gWA gws gww) :
    ∀ (d : Nat) (lo hi : Nat) (k : Int) gl gF gG gW gL gS gsr gpe gld gnl gE gLa gSt gWE gWA gws gww, lo ≤ hi → hi ≤ 60 → hi - lo ≤ d → 0 ≤ k → k + (hi - lo) ≤ 60 → AZ (uz S (58 + p) hi) b → (∀ s : Nat, s < lo → ¬ AZ (uz S (58 + p) s) b) → FI gF gG gL gW gS → iv_X4_door_L41 K p b pe m P qf qt qw ql qs (d + 1) lo hi k gl gF gG gW gL gS gsr gpe gld gnl gE gLa gSt gWE gWA gws gww := by
  intro d
  induction d with
  | zero =>
    intro lo hi k gl gF gG gW gL gS gsr gpe gld gnl gE gLa gSt gWE gWA gws gww h1 h2 h3 h4 h5 h6 h7 hg
    rw [iv_X4_door_L41]
    have : lo = hi := by omega
    subst this
    refine ⟨⟨smz (by omega) (by omega), smz (by omega) (by omega)⟩, fun c => by omega, fun c => ⟨⟨smz (by omega) (by omega), smz (by omega) (by omega)⟩, fun _ => ?_, fun c => absurd (by omega) c⟩⟩
    exact hK _ _ _ _ _ _ _ _ _ _ _ _ _ _ _ _ _ _ ⟨lo, rfl, h2, by rw [Int.toNat_natCast]; exact h6, by rw [Int.toNat_natCast]; exact h7⟩ hg
  | succ d ih =>
    intro lo hi k gl gF gG gW gL gS gsr gpe gld gnl gE gLa gSt gWE gWA gws gww h1 h2 h3 h4 h5 h6 h7 hg
    rw [iv_X4_door_L41]
    refine ⟨⟨smz (by omega) (by omega), smz (by omega) (by omega)⟩, fun c => by omega, fun c => ⟨⟨smz (by omega) (by omega), smz (by omega) (by omega)⟩, fun c2 => ?_, fun c2 => ⟨by unfold zn; omega, fun x hx => ?_⟩⟩⟩
    · have : lo = hi := by omega
      subst this
      exact hK _ _ _ _ _ _ _ _ _ _ _ _ _ _ _ _ _ _ ⟨lo, rfl, h2, by rw [Int.toNat_natCast]; exact h6, by rw [Int.toNat_natCast]; exact h7⟩ hg
    · obtain ⟨mid, hm⟩ : ∃ mid : Nat, x = mid := ⟨x.toNat, by omega⟩
      subst hm
      refine sp_canDoShut hPV hq hg hp (by omega) hb (fun u hu hz => ?_) (fun u hu hz => ?_)
      · refine ⟨⟨sm1, sm0⟩, fun z => absurd z (by decide), fun _ y hy => ?_⟩
        exact ih lo mid y _ _ _ _ _ _ _ _ _ _ _ _ _ _ _ _ _ (by omega) (by omega) (by omega) (by omega) (by omega) hz h7 hu
      · refine ⟨⟨sm0, sm0⟩, fun _ w hw y hy => ?_, fun z => absurd rfl z⟩
        subst hw
        refine ih (mid + 1) hi y _ _ _ _ _ _ _ _ _ _ _ _ _ _ _ _ _ (by omega) (by omega) (by omega) (by omega) (by omega) h6 (fun s hs q => hz ?_) hu
        exact AZ.later hPV hp ⟨by omega, by omega⟩ (by omega) q
theorem sp_door (hPV : PV S) (hq : PQ pe m P qf qt qw ql qs S) (hf : FI fF fG fL fW fS) (hg : FI gF gG gL gW gS) {a1 : Int} (ha : sm a1) {post : Int → (Int × (Nat → Int) × (Nat → Int) × (Nat → Int) × (Nat → Int) × (Nat → Int) × Int × Int × Int × (Nat → Int) × (Nat → Int) × (Nat → Int) × (Nat → Int) × (Nat → Int) × (Nat → Int) × Int × Int × Int × (Nat → Int) × (Nat → Int) × (Nat → Int) × (Nat → Int) × (Nat → Int) × Int × Int × Int × (Nat → Int) × (Nat → Int) × (Nat → Int) × (Nat → Int) × (Nat → Int) × (Nat → Int) × Int × Int) → Prop}
    (h0 : ∀ u, ¬ (0 ≤ a1 ∧ a1 < S 68) → FI2 u → post (-1) u) (h1 : ∀ (x : Int) u, 0 ≤ a1 → a1 < S 68 → LV S x → x = -6 → FI2 u → post (-6) u) (h2 : ∀ (x y : Int) u, 0 ≤ a1 → a1 < S 68 → LV S x → x ≠ -6 → dR S x a1.toNat y → FI2 u → post y u) : iv_X4_door a1 pe m P qf qt qw ql qs fl fF fG fW fL fS fsr fpe fld fnl fE fLa fSt fWE fWA fws fww gl gF gG gW gL gS gsr gpe gld gnl gE gLa gSt gWE gWA gws gww post := by
  have hP : P = S 68 := hq.2.2.1
  have h10 := hPV.2.2.1
  have h00 := hPV.2.1
  rw [iv_X4_door, iv_X4_isPassage]
  refine sp_within ha sm0 (smz (by omega) (by omega)) (fun c1 c2 => ⟨Or.inr rfl, ⟨sm1, sm0⟩, fun _ => ?_, fun z => absurd z (by decide)⟩) (fun c => ⟨Or.inl rfl, ⟨sm0, sm0⟩, fun z => absurd rfl z, fun _ => h0 _ (by omega) ⟨hf, hg⟩⟩)
  refine sp_leadAll hPV hq hf (fun x F G Wd L Sh led nl E La St WE WA ws ww hA hx hl h6 ht => ?_)
  have hxb : -6 ≤ x ∧ x ≤ 60 := by rcases hx with ⟨a, _⟩ | ⟨t, a, b, _⟩ <;> omega
  refine ⟨⟨smz (by omega) (by omega), smz (by omega) (by omega)⟩, fun c0 => ?_, fun c0 => h1 x _ c1 (by omega) hx c0 ⟨hA.fi, hg⟩⟩
  obtain ⟨t, rfl⟩ : ∃ t : Nat, x = t := by
    rcases hx with ⟨a, _⟩ | ⟨t, a, b, _⟩
    · exact absurd a c0
    · exact ⟨t, a⟩
  obtain ⟨w1, w2, w3⟩ := ht t rfl
  obtain ⟨p, rfl⟩ : ∃ p : Nat, a1 = p := ⟨a1.toNat, by omega⟩
  have hp10 : p < 10 := by omega
  have hlen := hPV.2.2.2 p (by omega)
  refine sp_lastUse hp10 (w2.bounds hPV).1 (fun s hs1 hs2 hs3 y hy => ?_)
  have : y = s := by omega
  subst this
  have hs60 : s ≤ 60 := by
    by_cases q : s = 0
    · omega
    · have := hs3 (by omega)
      have := (w2.use hp10 (t := s - 1) (by omega) (by omega)).2
      omega
  have hAz : AZ (uz S (58 + p) s) t := ⟨E, nl, FS.shut hPV w2 hp10 (fun t ht h => hs2 t ht (by omega)) (fun _ _ => rfl) (fun _ _ => rfl), w3⟩
  refine ⟨61, door_L hPV hq hp10 w1 (fun y gl gF gG gW gL gS gsr gpe gld gnl gE gLa gSt gWE gWA gws gww hd hg => ?_) 60 0 s 0 gl gF gG gW gL gS gsr gpe gld gnl gE gLa gSt gWE gWA gws gww (by omega) hs60 (by omega) (by omega) (by omega) hAz (fun s hs => absurd hs (Nat.not_lt_zero _)) hg⟩
  exact h2 t y (6 + S 68, F, G, Wd, L, Sh, smS S, sg S 6, led, nl, E, La, St, WE, WA, ws, ww, gl, gF, gG, gW, gL, gS, gsr, gpe, gld, gnl, gE, gLa, gSt, gWE, gWA, gws, gww) c1 (by omega) hx c0 (by rw [Int.toNat_natCast]; exact hd) ⟨hA.fi, hg⟩
end CH
