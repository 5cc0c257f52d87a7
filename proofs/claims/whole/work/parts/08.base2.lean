section LwBase2
def lw_fil (n : Nat) (v : Int32) (f : Nat → Int32) : Nat → Int32 := fun k => if k < n then v else f k
theorem lw_fil_0 (v : Int32) (f : Nat → Int32) : lw_fil 0 v f = f := by
  funext k
  simp [lw_fil]
theorem lw_fil_s (i : Nat) (v : Int32) (f : Nat → Int32) : upd (lw_fil i v f) i v = lw_fil (i + 1) v f := by
  funext k
  by_cases h : k = i
  · subst h
    rw [pk_us]
    simp [lw_fil]
  · rw [pk_un h]
    unfold lw_fil
    by_cases h2 : k < i
    · rw [if_pos h2, if_pos (by omega)]
    · rw [if_neg h2, if_neg (by omega)]
theorem lw_swn (x : Int32) (n : Nat) (hn : n < 100) (h : ∀ k : Nat, k ≤ n → ¬ x = nI k) : x.toInt < 0 ∨ (n : Int) < x.toInt := by
  by_cases h1 : x.toInt < 0
  · exact Or.inl h1
  · by_cases h2 : (n : Int) < x.toInt
    · exact Or.inr h2
    · exfalso
      refine h x.toInt.toNat (by omega) (Int32.toInt_inj.mp ?_)
      rw [nI_toInt (by omega)]
      omega

theorem lw_sw2 {x : Int32} (h0 : ¬ x = 0) (h1 : ¬ x = 1) (h2 : ¬ x = 2) : x.toInt < 0 ∨ 2 < x.toInt := by
  refine lw_swn x 2 (by decide) (fun k hk => ?_)
  rcases (show k = 0 ∨ k = 1 ∨ k = 2 by omega) with rfl | rfl | rfl <;> assumption

theorem lw_sw4 {x : Int32} (h0 : ¬ x = 0) (h1 : ¬ x = 1) (h2 : ¬ x = 2) (h3 : ¬ x = 3) (h4 : ¬ x = 4) : x.toInt < 0 ∨ 4 < x.toInt := by
  refine lw_swn x 4 (by decide) (fun k hk => ?_)
  rcases (show k = 0 ∨ k = 1 ∨ k = 2 ∨ k = 3 ∨ k = 4 by omega) with rfl | rfl | rfl | rfl | rfl <;> assumption

theorem lw_sw5 {x : Int32} (h0 : ¬ x = 0) (h1 : ¬ x = 1) (h2 : ¬ x = 2) (h3 : ¬ x = 3) (h4 : ¬ x = 4) (h5 : ¬ x = 5) : x.toInt < 0 ∨ 5 < x.toInt := by
  refine lw_swn x 5 (by decide) (fun k hk => ?_)
  rcases (show k = 0 ∨ k = 1 ∨ k = 2 ∨ k = 3 ∨ k = 4 ∨ k = 5 by omega) with rfl | rfl | rfl | rfl | rfl | rfl <;> assumption

theorem lw_sw20 {x : Int32} (h0 : ¬ x = 0) (h1 : ¬ x = 1) (h2 : ¬ x = 2) (h3 : ¬ x = 3) (h4 : ¬ x = 4) (h5 : ¬ x = 5) (h6 : ¬ x = 6) (h7 : ¬ x = 7) (h8 : ¬ x = 8) (h9 : ¬ x = 9) (h10 : ¬ x = 10) (h11 : ¬ x = 11) (h12 : ¬ x = 12) (h13 : ¬ x = 13) (h14 : ¬ x = 14) (h15 : ¬ x = 15) (h16 : ¬ x = 16) (h17 : ¬ x = 17) (h18 : ¬ x = 18) (h19 : ¬ x = 19) (h20 : ¬ x = 20) : x.toInt < 0 ∨ 20 < x.toInt := by
  refine lw_swn x 20 (by decide) (fun k hk => ?_)
  rcases (show k = 0 ∨ k = 1 ∨ k = 2 ∨ k = 3 ∨ k = 4 ∨ k = 5 ∨ k = 6 ∨ k = 7 ∨ k = 8 ∨ k = 9 ∨ k = 10 ∨ k = 11 ∨ k = 12 ∨ k = 13 ∨ k = 14 ∨ k = 15 ∨ k = 16 ∨ k = 17 ∨ k = 18 ∨ k = 19 ∨ k = 20 by omega) with rfl | rfl | rfl | rfl | rfl | rfl | rfl | rfl | rfl | rfl | rfl | rfl | rfl | rfl | rfl | rfl | rfl | rfl | rfl | rfl | rfl <;> assumption

variable {p : Program} {l : Launch} {e : Env} {R : Room} {s : State} {m : MethodId} {args : Array Value} {below : List Frame} {meth : Method} {c : Code} {H : Heap} {locs : List Loc} {cells slots : Nat} {Q : State → Prop} {D : va_G} {cI cZ : ClassId} {cc : ByteArray} {maxL : Nat} {ret : Option FieldType} {own : String} {A : Nat → Prop} {pc : Nat} {ls : Array Slot} {rest : List Value}
def lw_Qr (D : va_G) (cI cZ : ClassId) (A : Nat → Prop) (w1 : va_W) (a0 : Nat) : Array Value → State → Outcome → State → Prop := va_Qr (S := Unit) (fun _ => True) (fun _ a t => a = a0 ∧ lw_E D cI cZ A w1 t) A
theorem lw_callr {w1 wr wc ws : va_W} {a0 mc ms : Nat} {st0 : List Value} {a : Array Value} (C : lw_Cx D cI cZ p s m args meth c cc maxL ret own A) (hr : va_Run p l e R s m args below meth c H locs cells slots mc ms (F0 m pc ls st0) rest (lw_Qr D cI cZ (va_A wc H.size) w1 a0 a) (va_A wc H.size)) (hP : va_P D vwCl ws H) (hD : va_D A ws) (hS : va_S A s.heap H locs) (isC isR : List Nat) (hC : isC.map (fun i => ws[i]?) = wc.map some) (hRr : isR.map (fun i => ws[i]?) = wr.map some) (hnr : va_nd isR = true) (hdis : ∀ i ∈ isR, i ∉ isC)
    (kk : ∀ (H1 : Heap) (locs1 : List Loc), va_P D vwCl (wr ++ w1) H1 → va_D A (wr ++ w1) → va_S A s.heap H1 locs1 → W p l e R s m args below meth c H1 locs1 (cells + mc) (slots + ms) Q (F0 m (pc + 3) ls (.ref a0 :: rest))) : W p l e R s m args below meth c H locs cells slots Q (F0 m pc ls st0) := by
  obtain ⟨hx, hb, hr9, hml, hown, hts, hlocks, hN, hK, hA⟩ := C
  have hFc := va_free (wc := wc) hD hS hA isC hC
  refine va_callr hr hS (fun q _ h => hFc q h) hFc (fun u ra t H1 locs1 ht hvm hw hB hz1 hk1 hS1 => ?_)
  obtain ⟨rfl, hP1, hK1, hD1⟩ := hB
  rw [ht] at hP1
  obtain ⟨hP2, hD2⟩ := va_join (wr := wr) (w1 := w1) hP hD isC isR hC hRr hnr hdis hk1 hFc hP1 hD1
  exact kk H1 locs1 hP2 hD2 hS1
theorem lw_aret {w1 : va_W} {a0 : Nat} {C0 : String} (C : lw_Cx D cI cZ p s m args meth c cc maxL (some (.object C0)) own A) (hP : va_P D vwCl w1 H) (hD : va_D A w1) (hS : va_S A s.heap H locs) (hdg : decode cc pc = .ok (.areturn, 1)) : W p l e R s m args below meth c H locs 0 0 (MQ below (lw_Qr D cI cZ A w1 a0) args s 0 0 A) (F0 m pc ls [.ref a0]) := by
  obtain ⟨hx, hb, hr, hml, hown, hts, hlocks, hN, hK, hA⟩ := C
  exact W.aret hx hb hr (Or.inl ⟨_, rfl⟩) (Or.inr ⟨_, rfl⟩) (fun t ht hW => ⟨⟨(), a0, rfl, trivial, rfl, by rw [ht]; exact hP, va_K.moved hW.alike hK, hD⟩, hS.F ht⟩) hS.2.2 hdg hlocks
end LwBase2
set_option maxHeartbeats 4000000 in
set_option maxRecDepth 100000 in
/-- Arrays.fill(int[], int) -/
theorem m_fill (l : Launch) (D : va_G) (cI cZ : ClassId) (a : Nat) (f : Nat → Int32) (v : Int32) (sz n : Nat) (hn : n < 2 ^ 31) :
    Met l yJ7_fill_53178 (Cond.code yJ7_fill_53178 cJ7_fill_53178 4 none :: lw_good) ({ frames := 0, cells := 0, slots := 0, locals := 0 } : Room) (va_Pc [.ref a, .int v] (lw_B D cI cZ [(a, .inl (cI, n, .inl f))] sz)) (lw_Qv D cI cZ (va_A [(a, .inl (cI, n, .inl f))] sz) (fun u : Nat → Int32 => [(a, .inl (cI, n, .inl u))]) (fun u => u = lw_fil n v f)) 0 0 (va_A [(a, .inl (cI, n, .inl f))] sz) := by
  refine lw_met (Q := fun A => lw_Qv D cI cZ A (fun u : Nat → Int32 => [(a, .inl (cI, n, .inl u))]) (fun u => u = lw_fil n v f)) (by decide) (Nat.le_of_ble_eq_true rfl) ?_
  intro p e s m below meth c A C hnm hP hD hS ls hl
  have C : lw_Cx D cI cZ p s m _ meth c cJ7_fill_53178 4 none RJ7 A := C
  obtain ⟨hx, hb, hr, hml, hown, hts, hlocks, hN, hK, hA⟩ := id C
  have hl : lv_has ls 4 [(0, .ref a), (1, .int v)] := hl
  refine lv_iconst (v := 0) hx hb dJ7_fill_53178_0 (by decide) ?_
  refine lv_istore_n (lv' := [(2, .int 0), (0, .ref a), (1, .int v)]) hx hb dJ7_fill_53178_1 rfl hl (by decide) rfl (fun ls hl => ?_)
  refine lv_aload_n hx hb dJ7_fill_53178_2 rfl (lv_at hl 1 rfl) ?_
  refine va_alen (v := nI n) hx hb hK hP 0 0 rfl (ty := .int) rfl rfl dJ7_fill_53178_3 ?_
  refine lv_istore_n (lv' := [(3, .int (nI n)), (2, .int 0), (0, .ref a), (1, .int v)]) hx hb dJ7_fill_53178_4 rfl hl (by decide) rfl (fun ls hl => ?_)
  have key : ∀ (k i : Nat), i + k = n → ∀ (H : Heap) (locs : List Loc) (ls : Array Slot), va_P D vwCl [(a, .inl (cI, n, .inl (lw_fil i v f)))] H → va_D A [(a, .inl (cI, n, .inl (lw_fil i v f)))] → va_S A s.heap H locs → lv_has ls 4 [(0, .ref a), (1, .int v), (2, .int (nI i)), (3, .int (nI n))] → W p l e ({ frames := 0, cells := 0, slots := 0, locals := 0 } : Room) s m #[.ref a, .int v] below meth c H locs 0 0 (MQ below (lw_Qv D cI cZ A (fun u : Nat → Int32 => [(a, .inl (cI, n, .inl u))]) (fun u => u = lw_fil n v f)) #[.ref a, .int v] s 0 0 A) (F0 m 5 ls []) := by
    intro k
    induction k with
    | zero =>
      intro i hi H locs ls hP hD hS hl
      have hi : i = n := hi
      subst hi
      refine lv_iload_n hx hb dJ7_fill_53178_5 rfl (lv_at hl 2 rfl) ?_
      refine lv_iload_n hx hb dJ7_fill_53178_6 rfl (lv_at hl 3 rfl) ?_
      refine lv_icmp_ge (tgt := 20) hx hb dJ7_fill_53178_7 (by decide) (fun c9 => ?_) (fun c9 => absurd (nI_le (Nat.le_refl i) hn) c9)
      exact lw_vret C (lw_fil i v f) rfl hP hD hS dJ7_fill_53178_20
    | succ k ih =>
      intro i hi H locs ls hP hD hS hl
      refine lv_iload_n hx hb dJ7_fill_53178_5 rfl (lv_at hl 2 rfl) ?_
      refine lv_iload_n hx hb dJ7_fill_53178_6 rfl (lv_at hl 3 rfl) ?_
      refine lv_icmp_ge (tgt := 20) hx hb dJ7_fill_53178_7 (by decide) (fun c9 => absurd c9 (nI_ge (by omega) hn)) (fun c9 => ?_)
      refine lv_aload_n hx hb dJ7_fill_53178_10 rfl (lv_at hl 0 rfl) ?_
      refine lv_iload_n hx hb dJ7_fill_53178_11 rfl (lv_at hl 2 rfl) ?_
      refine lv_iload_n hx hb dJ7_fill_53178_12 rfl (lv_at hl 1 rfl) ?_
      refine va_iast hx hb hK hP hD hS 0 0 rfl rfl (vp_in_nI (by omega) hn) dJ7_fill_53178_13 (fun H locs hP hD hS => ?_)
      have e9 : upd (lw_fil i v f) (nI i).toNatClampNeg v = lw_fil (i + 1) v f := by rw [nI_clamp (by omega)]; exact lw_fil_s i v f
      have hP : va_P D vwCl [(a, .inl (cI, n, .inl (lw_fil (i + 1) v f)))] H := by rw [← e9]; exact hP
      have hD : va_D A [(a, .inl (cI, n, .inl (lw_fil (i + 1) v f)))] := by rw [← e9]; exact hD
      refine lv_iinc (v := nI (i + 1)) (lv' := [(2, .int (nI (i + 1))), (0, .ref a), (1, .int v), (3, .int (nI n))]) hx hb dJ7_fill_53178_14 hl (k := 2) rfl (nI_1 i) (by decide) rfl (fun ls hl => ?_)
      refine lv_goto (tgt := 5) hx hb dJ7_fill_53178_17 (by decide) ?_
      exact ih (i + 1) (by omega) H locs ls hP hD hS (lv_sub hl [1, 2, 0, 3] rfl)
  refine key n 0 (by omega) s.heap [] ls ?_ ?_ hS (lv_sub hl [2, 3, 1, 0] rfl)
  · rw [lw_fil_0]; exact hP
  · rw [lw_fil_0]; exact hD

set_option maxHeartbeats 4000000 in
set_option maxRecDepth 100000 in
theorem m_imageAt0 (l : Launch) (D : va_G) (cI cZ : ClassId) (xh qh qah qbh dh fh gh th : Nat) (x_imagesKept a1 : Int32) (sz : Nat) (h : a1 = 0) :
    Met l yX4_imageAt (Cond.code yX4_imageAt cX4_imageAt 2 (some (.object "ExitFlows$Plan")) :: lw_good) ({ frames := 0, cells := 0, slots := 0, locals := 0 } : Room) (va_Pc [.ref xh, .int a1] (lw_B D cI cZ [(xh, .inr (4, [.ref qh, .ref qah, .ref qbh, .int x_imagesKept, .ref dh, .ref fh, .ref gh, .ref th]))] sz)) (lw_Qr D cI cZ (va_A [(xh, .inr (4, [.ref qh, .ref qah, .ref qbh, .int x_imagesKept, .ref dh, .ref fh, .ref gh, .ref th]))] sz) [(xh, .inr (4, [.ref qh, .ref qah, .ref qbh, .int x_imagesKept, .ref dh, .ref fh, .ref gh, .ref th]))] qah) 0 0 (va_A [(xh, .inr (4, [.ref qh, .ref qah, .ref qbh, .int x_imagesKept, .ref dh, .ref fh, .ref gh, .ref th]))] sz) := by
  refine lw_met (Q := fun A => lw_Qr D cI cZ A [(xh, .inr (4, [.ref qh, .ref qah, .ref qbh, .int x_imagesKept, .ref dh, .ref fh, .ref gh, .ref th]))] qah) (by decide) (Nat.le_of_ble_eq_true rfl) ?_
  intro p e s m below meth c A C hnm hP hD hS ls hl
  have C : lw_Cx D cI cZ p s m _ meth c cX4_imageAt 2 (some (.object "ExitFlows$Plan")) RX4 A := C
  obtain ⟨hx, hb, hr, hml, hown, hts, hlocks, hN, hK, hA⟩ := id C
  have hl : lv_has ls 2 [(0, .ref xh), (1, .int a1)] := hl
  refine lv_iload_n hx hb dX4_imageAt_0 rfl (lv_at hl 1 rfl) ?_
  refine lv_if_ne (tgt := 11) hx hb dX4_imageAt_1 (by decide) (fun c9 => absurd h c9) (fun _ => ?_)
  refine lv_aload_n hx hb dX4_imageAt_4 rfl (lv_at hl 0 rfl) ?_
  refine va_get (D := D) (ci := 4) (v := .ref qah) (C := RX4) (T := TX4) (N := 8) hx hb hts iX4 hown hK hP 0 rfl rfl 1 (by decide) (hts _ kw_244) (fun _ h9 => h9) rfl dX4_imageAt_5 ?_
  refine lv_goto (tgt := 15) hx hb dX4_imageAt_8 (by decide) ?_
  exact lw_aret C hP hD hS dX4_imageAt_15

set_option maxHeartbeats 4000000 in
set_option maxRecDepth 100000 in
theorem m_imageAt1 (l : Launch) (D : va_G) (cI cZ : ClassId) (xh qh qah qbh dh fh gh th : Nat) (x_imagesKept a1 : Int32) (sz : Nat) (h : ¬ a1 = 0) :
    Met l yX4_imageAt (Cond.code yX4_imageAt cX4_imageAt 2 (some (.object "ExitFlows$Plan")) :: lw_good) ({ frames := 0, cells := 0, slots := 0, locals := 0 } : Room) (va_Pc [.ref xh, .int a1] (lw_B D cI cZ [(xh, .inr (4, [.ref qh, .ref qah, .ref qbh, .int x_imagesKept, .ref dh, .ref fh, .ref gh, .ref th]))] sz)) (lw_Qr D cI cZ (va_A [(xh, .inr (4, [.ref qh, .ref qah, .ref qbh, .int x_imagesKept, .ref dh, .ref fh, .ref gh, .ref th]))] sz) [(xh, .inr (4, [.ref qh, .ref qah, .ref qbh, .int x_imagesKept, .ref dh, .ref fh, .ref gh, .ref th]))] qbh) 0 0 (va_A [(xh, .inr (4, [.ref qh, .ref qah, .ref qbh, .int x_imagesKept, .ref dh, .ref fh, .ref gh, .ref th]))] sz) := by
  refine lw_met (Q := fun A => lw_Qr D cI cZ A [(xh, .inr (4, [.ref qh, .ref qah, .ref qbh, .int x_imagesKept, .ref dh, .ref fh, .ref gh, .ref th]))] qbh) (by decide) (Nat.le_of_ble_eq_true rfl) ?_
  intro p e s m below meth c A C hnm hP hD hS ls hl
  have C : lw_Cx D cI cZ p s m _ meth c cX4_imageAt 2 (some (.object "ExitFlows$Plan")) RX4 A := C
  obtain ⟨hx, hb, hr, hml, hown, hts, hlocks, hN, hK, hA⟩ := id C
  have hl : lv_has ls 2 [(0, .ref xh), (1, .int a1)] := hl
  refine lv_iload_n hx hb dX4_imageAt_0 rfl (lv_at hl 1 rfl) ?_
  refine lv_if_ne (tgt := 11) hx hb dX4_imageAt_1 (by decide) (fun _ => ?_) (fun c9 => absurd c9 h)
  refine lv_aload_n hx hb dX4_imageAt_11 rfl (lv_at hl 0 rfl) ?_
  refine va_get (D := D) (ci := 4) (v := .ref qbh) (C := RX4) (T := TX4) (N := 8) hx hb hts iX4 hown hK hP 0 rfl rfl 2 (by decide) (hts _ kw_245) (fun _ h9 => h9) rfl dX4_imageAt_12 ?_
  exact lw_aret C hP hD hS dX4_imageAt_15
