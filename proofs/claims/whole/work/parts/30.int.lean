/-! OVER Int: each number of the machine as iz of a whole number, each row of numbers as az of a row of whole numbers -/
def iz (z : Int) : Int32 := Int32.ofInt z
def az (F : Nat → Int) : Nat → Int32 := fun k => iz (F k)
def uz (F : Nat → Int) (i : Nat) (z : Int) : Nat → Int := fun j => if j = i then z else F j
def fz (n : Nat) (v : Int) (F : Nat → Int) : Nat → Int := fun k => if k < n then v else F k
def zor (a b : Int) : Int := ((a.toNat ||| b.toNat : Nat) : Int)
def sm (z : Int) : Prop := -2147483648 ≤ z ∧ z < 2147483648
def zn (z : Int) : Prop := 0 ≤ z ∧ z < 2147483648
theorem iz_nI (n : Nat) : nI n = iz n := by
  unfold nI iz
  first | rfl | exact (Int32.ofInt_natCast n).symm | simp
theorem zl (n : Nat) : (no_index (OfNat.ofNat n) : Int32) = iz (no_index (OfNat.ofNat n)) := (iz_nI n)
theorem iz_add (a b : Int) : iz a + iz b = iz (a + b) := (Int32.ofInt_add a b).symm
theorem iz_sub (a b : Int) : iz a - iz b = iz (a - b) := (Int32.ofInt_sub a b).symm
theorem iz_mul (a b : Int) : iz a * iz b = iz (a * b) := (Int32.ofInt_mul a b).symm
theorem iz_neg (a : Int) : -iz a = iz (-a) := (Int32.ofInt_neg a).symm
theorem iz_to {z : Int} (h : sm z) : (iz z).toInt = z := by
  unfold iz
  rw [Int32.toInt_ofInt, show Int32.size = 2 ^ 32 from rfl]
  unfold sm at h
  exact Int.bmod_eq_of_le (by omega) (by omega)
theorem z_in {x : Int32} {z : Int} {n : Nat} (hx : x = iz z) (h : 0 ≤ z ∧ z < n) (hn : n < 2 ^ 31) : vp_in x n := by
  subst hx
  rw [vp_in_iff, iz_to (by unfold sm; omega)]
  exact h
theorem iz_cl {z : Int} (h : 0 ≤ z) (h2 : z < 2147483648) : (iz z).toNatClampNeg = z.toNat := by
  show (iz z).toInt.toNat = z.toNat
  rw [iz_to (by unfold sm; omega)]
theorem z_at {f : Nat → Int32} {F : Nat → Int} {x : Int32} {z : Int} {n : Nat} (hf : f = az F) (hx : x = iz z) (h : 0 ≤ z ∧ z < n) (hn : n < 2 ^ 31) : f x.toNatClampNeg = iz (F z.toNat) := by
  subst hf hx
  rw [iz_cl h.1 (by omega)]
  rfl
theorem z_at0 {f : Nat → Int32} {F : Nat → Int} {k : Nat} (hf : f = az F) : f k = iz (F k) := by subst hf; rfl
theorem z_upd0 {f : Nat → Int32} {F : Nat → Int} {k : Nat} {v : Int32} {w : Int} (hf : f = az F) (hv : v = iz w) : upd f k v = az (uz F k w) := by
  subst hf hv
  funext j
  by_cases h : j = k
  · subst h; rw [pk_us]; simp [az, uz]
  · rw [pk_un h]; simp [az, uz, h]
theorem z_upd {f : Nat → Int32} {F : Nat → Int} {x : Int32} {z : Int} {n : Nat} {v : Int32} {w : Int} (hf : f = az F) (hx : x = iz z) (hv : v = iz w) (h : 0 ≤ z ∧ z < n) (hn : n < 2 ^ 31) : upd f x.toNatClampNeg v = az (uz F z.toNat w) := by
  subst hx
  rw [iz_cl h.1 (by omega)]
  exact z_upd0 hf hv
theorem z_eq {x y : Int32} {a b : Int} (hx : x = iz a) (hy : y = iz b) (ha : sm a) (hb : sm b) : x = y ↔ a = b := by
  subst hx hy
  rw [← Int32.toInt_inj, iz_to ha, iz_to hb]
theorem z_lt {x y : Int32} {a b : Int} (hx : x = iz a) (hy : y = iz b) (ha : sm a) (hb : sm b) : x < y ↔ a < b := by
  subst hx hy
  rw [Int32.lt_iff_toInt_lt, iz_to ha, iz_to hb]
theorem z_le {x y : Int32} {a b : Int} (hx : x = iz a) (hy : y = iz b) (ha : sm a) (hb : sm b) : x ≤ y ↔ a ≤ b := by
  subst hx hy
  rw [Int32.le_iff_toInt_le, iz_to ha, iz_to hb]
theorem z_min {x y : Int32} {a b : Int} (hy : y = iz b) (hx : x = iz a) (hb : sm b) (ha : sm a) : (if y < x then y else x) = iz (if b < a then b else a) := by
  have h := z_lt hy hx hb ha
  by_cases c : b < a
  · rw [if_pos c, if_pos (h.mpr c)]; exact hy
  · rw [if_neg c, if_neg (fun q => c (h.mp q))]; exact hx
theorem z_abs {x : Int32} {a : Int} (hx : x = iz a) (ha : sm a) : (if 0 ≤ x then x else 0 - x) = iz (if 0 ≤ a then a else 0 - a) := by
  have h := z_le (x := 0) (y := x) (a := 0) (b := a) rfl hx (by unfold sm; omega) ha
  by_cases c : 0 ≤ a
  · rw [if_pos c, if_pos (h.mpr c)]; exact hx
  · rw [if_neg c, if_neg (fun q => c (h.mp q)), hx, ← iz_sub]; rfl
theorem z_div {x y : Int32} {a : Int} {d : Nat} (hx : x = iz a) (ha : zn a) (hd : 0 < d) (hd2 : d < 2 ^ 31) (hy : y = nI d := by rfl) : x / y = iz (a / d) := by
  obtain ⟨n, rfl⟩ : ∃ n : Nat, a = n := ⟨a.toNat, by have := ha.1; omega⟩
  subst hx hy
  rw [← iz_nI, pk_div (by have := ha.2; omega) hd hd2, iz_nI]
  rfl
theorem z_rem {x y : Int32} {a : Int} {d : Nat} (hx : x = iz a) (ha : zn a) (hd : 0 < d) (hd2 : d < 2 ^ 31) (hy : y = nI d := by rfl) : x - x / y * y = iz (a - a / d * d) := by
  rw [z_div hx ha hd hd2 hy, hx, hy, iz_nI, iz_mul, iz_sub]
theorem z_or {x y : Int32} {a b : Int} (hx : x = iz a) (hy : y = iz b) (ha : zn a) (hb : zn b) : x ||| y = iz (zor a b) := by
  obtain ⟨n, rfl⟩ : ∃ n : Nat, a = n := ⟨a.toNat, by have := ha.1; omega⟩
  obtain ⟨k, rfl⟩ : ∃ n : Nat, b = n := ⟨b.toNat, by have := hb.1; omega⟩
  subst hx hy
  unfold zor
  rw [← iz_nI, ← iz_nI, ← iz_nI]
  simp only [Int.toNat_natCast]
  apply Int32.toBitVec_inj.1
  show BitVec.ofNat 32 n ||| BitVec.ofNat 32 k = BitVec.ofNat 32 (n ||| k)
  apply BitVec.eq_of_getLsbD_eq
  intro i hi
  simp [hi]
theorem z_cpy {f g : Nat → Int32} {F G : Nat → Int} {sp dp n : Nat} (hf : f = az F) (hg : g = az G) : va_cpy f g sp dp n = az (va_cpy F G sp dp n) := by
  subst hf hg
  funext k
  show va_cpy (az F) (az G) sp dp n k = iz (va_cpy F G sp dp n k)
  unfold va_cpy
  by_cases h : dp ≤ k ∧ k < dp + n
  · simp only [if_pos h]; rfl
  · simp only [if_neg h]; rfl
theorem z_fil {f : Nat → Int32} {F : Nat → Int} {n : Nat} {v : Int32} {w : Int} (hv : v = iz w) (hf : f = az F) : lw_fil n v f = az (fz n w F) := by
  subst hf hv
  funext k
  show lw_fil n (iz w) (az F) k = iz (fz n w F k)
  unfold lw_fil fz
  by_cases h : k < n
  · simp only [if_pos h]
  · simp only [if_neg h]; rfl
theorem z_shl {y : Int32} {b : Int} (hy : y = iz b) (h : 0 ≤ b ∧ b < 30) : (1 : Int32) <<< (y &&& 31) = iz (2 ^ b.toNat) := by
  subst hy
  obtain ⟨n, rfl⟩ : ∃ n : Nat, b = n := ⟨b.toNat, by omega⟩
  have key : ∀ n, n < 30 → (1 : Int32) <<< (nI n &&& 31) = nI (2 ^ n) := by decide
  have hn : n < 30 := by omega
  rw [← iz_nI, key n hn, iz_nI]
  rfl
theorem z_nar {v : Int32} {z : Int} (hv : v = iz z) (h : z = 0 ∨ z = 1) : narrow .boolean (.int v) = .int v := by
  subst hv
  rcases h with rfl | rfl <;> rfl
def iv_X4_isIn (a0 : Int) (a1 : Int) (post : Int → Unit → Prop) : Prop := (0 ≤ a0 ∧ a0 < 64 ∧ 0 ≤ a1 ∧ a1 < 6) ∧ post (if a0.toNat.testBit a1.toNat = true then 1 else 0) ()
theorem lift_X4_isIn {a0' : Int32} {a0 : Int} {a1' : Int32} {a1 : Int} (e_a0 : a0' = iz a0) (e_a1 : a1' = iz a1) {post0 : Int32 → Unit → Prop} {post : Int → Unit → Prop} (hv : iv_X4_isIn a0 a1 post) (hp : ∀ (r : Int) (u : Unit) (x : Int32) (y : Unit), post r u → x = iz r → y = () → post0 x y) : vc_X4_isIn a0' a1' post0 := by
  subst e_a0 e_a1
  obtain ⟨h, hv⟩ := hv
  obtain ⟨n, rfl⟩ : ∃ n : Nat, a0 = n := ⟨a0.toNat, by omega⟩
  obtain ⟨k, rfl⟩ : ∃ n : Nat, a1 = n := ⟨a1.toNat, by omega⟩
  simp only [Int.toNat_natCast] at hv
  have key : ∀ n, n < 64 → ∀ k, k < 6 → (((nI n >>> (nI k &&& 31)) &&& 1) = 1 ↔ n.testBit k = true) := by decide +kernel
  have hq := key n (by omega) k (by omega)
  rw [vc_X4_isIn, ← iz_nI, ← iz_nI]
  refine ⟨fun c9 => hp _ _ _ _ hv ?_ rfl, fun c9 => hp _ _ _ _ hv ?_ rfl⟩
  · rw [if_neg (fun z9 => c9 (hq.mpr z9))]; rfl
  · rw [if_pos (hq.mp c9)]; rfl
