/-! BASE: one list of words for every method, one shape of contract, the calls and the returns by it -/
section LwBase
def lw_good : List Cond := lw_tbl.filter goodWord
def lw_isN : Cond → Bool
  | .fieldLinkNest _ _ _ _ _ _ => true
  | .methodLinkNest _ _ _ _ => true
  | _ => false
def lw_nest : List Cond := lw_tbl.filter lw_isN
def lw_N (U : State) : Prop := ∀ w ∈ lw_nest, va_Nw w U
theorem lw_N.warm {s U : State} (hW : s.WarmedH U.vm) (h : lw_N s) : lw_N U := by
  intro w hw
  have h1 := h w hw
  have h2 := (List.mem_filter.mp hw).2
  cases w <;> first | exact va_Nw.warmF hW h1 | exact va_Nw.warmM hW h1 | exact absurd h2 Bool.false_ne_true
theorem lw_N.same {u U : State} (hvm : u.vm = U.vm) (h : lw_N u) : lw_N U := by
  intro w hw
  have h1 := h w hw
  have h2 := (List.mem_filter.mp hw).2
  cases w <;> first | exact absurd h2 Bool.false_ne_true | exact va_Nw.same rfl hvm h1
theorem lw_gi {ws : List Cond} (h : ∀ w ∈ ws, w ∈ lw_good) : GoodIn lw_good ws := fun w hw => ⟨h w hw, good_of_word (List.mem_filter.mp (h w hw)).2⟩
theorem lw_mg {w : Cond} {i : Nat} (h : lw_tbl[i]? = some w) (hg : goodWord w = true) : w ∈ lw_good := List.mem_filter.mpr ⟨List.mem_of_getElem? h, hg⟩
theorem lw_mn {w : Cond} {i : Nat} (h : lw_tbl[i]? = some w) (hg : lw_isN w = true) : w ∈ lw_nest := List.mem_filter.mpr ⟨List.mem_of_getElem? h, hg⟩
/-- the world at a method's start -/
def lw_B (D : va_G) (cI cZ : ClassId) (ws : va_W) (sz : Nat) (U : State) : Prop := U.heap.size = sz ∧ va_P D vwCl ws U.heap ∧ va_K D vwCl [(cI, .int), (cZ, .boolean)] U ∧ va_D (fun _ => True) ws ∧ lw_N U
/-- the world at its end -/
def lw_E (D : va_G) (cI cZ : ClassId) (A : Nat → Prop) (ws : va_W) (t : State) : Prop := va_P D vwCl ws t.heap ∧ va_K D vwCl [(cI, .int), (cZ, .boolean)] t ∧ va_D A ws
/-- what a walk stands on -/
def lw_Cx (D : va_G) (cI cZ : ClassId) (p : Program) (s : State) (m : MethodId) (args : Array Value) (meth : Method) (c : Code) (cc : ByteArray) (maxL : Nat) (ret : Option FieldType) (own : String) (A : Nat → Prop) : Prop :=
  p.tables.exec = Jvm.exec ∧ c.code = cc ∧ meth.sig.returnType = ret ∧ c.maxLocals = maxL ∧ s.vm.findClass own = some m.cls ∧ (∀ w ∈ lw_good, w.before args s = true) ∧ meth.locks = false ∧ lw_N s ∧ va_K D vwCl [(cI, .int), (cZ, .boolean)] s ∧ ∀ q : Nat, s.heap.size ≤ q → A q
def lw_Qi {S : Type} (D : va_G) (cI cZ : ClassId) (A : Nat → Prop) (ws1 : S → va_W) (post : Int32 → S → Prop) : Array Value → State → Outcome → State → Prop := va_Qi post (fun u t => lw_E D cI cZ A (ws1 u) t) A
def lw_Qf {S : Type} (D : va_G) (cI cZ : ClassId) (A : Nat → Prop) (ws1 : S → va_W) (post : UInt32 → S → Prop) : Array Value → State → Outcome → State → Prop := va_Qf post (fun u t => lw_E D cI cZ A (ws1 u) t) A
def lw_Qv {S : Type} (D : va_G) (cI cZ : ClassId) (A : Nat → Prop) (ws1 : S → va_W) (post : S → Prop) : Array Value → State → Outcome → State → Prop := va_Qv post (fun u t => lw_E D cI cZ A (ws1 u) t) A
theorem lw_met {l : Launch} {y : MethodName} {cc : ByteArray} {maxL : Nat} {ret : Option FieldType} {rm : Room} {As : List Value} {ws : va_W} {sz mc ms : Nat} {D : va_G} {cI cZ : ClassId} {Q : (Nat → Prop) → Array Value → State → Outcome → State → Prop}
    (hy : plainName y.cls = true) (hlen : (lg_sl As).length ≤ maxL)
    (body : ∀ (p : Program) (e : Env) (s : State) (m : MethodId) (below : List Frame) (meth : Method) (c : Code) (A : Nat → Prop), lw_Cx D cI cZ p s m As.toArray meth c cc maxL ret y.cls A → meth.name = y.name → va_P D vwCl ws s.heap → va_D A ws → va_S A s.heap s.heap [] → ∀ ls : Array Slot, lv_has ls maxL (lv_args 0 As) →
      W p l e rm s m As.toArray below meth c s.heap [] 0 0 (MQ below (Q A) As.toArray s mc ms A) (F0 m 0 ls [])) :
    Met l y (Cond.code y cc maxL ret :: lw_good) rm (va_Pc As (lw_B D cI cZ ws sz)) (Q (va_A ws sz)) mc ms (va_A ws sz) := by
  refine Met.ofW (cc := cc) (maxL := maxL) (ret := ret) hy rfl ?_
  intro p e s m args below meth c s₁ B hml hv
  obtain ⟨rfl, hsz, hP, hK, hD0, hN⟩ := hv
  have hts := atoms_spec (ws := Cond.code y cc maxL ret :: lw_good) B.pre
  subst hsz
  have hl := lv_entry As (n := maxL) hlen
  rw [lg_entry_eq]
  exact body p e s m below meth c _ ⟨B.exec, B.bytes, B.returns, hml, findClass_of_methodNamed B.named, fun w h => hts w (List.mem_cons_of_mem _ h), B.notSynchronized, hN, hK, fun q h => Or.inr h⟩ (name_of_methodNamed B.named B.method).1 hP hD0.self va_S.rf _ hl
variable {p : Program} {l : Launch} {e : Env} {R : Room} {s : State} {m : MethodId} {args : Array Value} {below : List Frame} {meth : Method} {c : Code} {H : Heap} {locs : List Loc} {cells slots : Nat} {Q : State → Prop} {D : va_G} {cI cZ : ClassId} {cc : ByteArray} {maxL : Nat} {ret : Option FieldType} {own : String} {A : Nat → Prop} {pc : Nat} {ls : Array Slot} {rest : List Value}
theorem lw_iret {S : Type} {post : Int32 → S → Prop} {ws1 : S → va_W} {mc ms : Nat} (C : lw_Cx D cI cZ p s m args meth c cc maxL (some .int) own A) (u : S) {v : Int32} (hv : post v u) (hP : va_P D vwCl (ws1 u) H) (hD : va_D A (ws1 u)) (hS : va_S A s.heap H locs) (hdg : decode cc pc = .ok (.ireturn, 1)) : W p l e R s m args below meth c H locs mc ms (MQ below (lw_Qi D cI cZ A ws1 post) args s mc ms A) (F0 m pc ls [.int v]) := by
  obtain ⟨hx, hb, hr, hml, hown, hts, hlocks, hN, hK, hA⟩ := C
  exact W.iret hx hb hr (fun t ht hW => ⟨⟨v, u, rfl, hv, by rw [ht]; exact hP, va_K.moved hW.alike hK, hD⟩, hS.F ht⟩) hS.2.2 hdg hlocks
theorem lw_zret {S : Type} {post : Int32 → S → Prop} {ws1 : S → va_W} {mc ms : Nat} (C : lw_Cx D cI cZ p s m args meth c cc maxL (some .boolean) own A) (u : S) {v : Int32} (hn : narrow .boolean (.int v) = .int v) (hv : post v u) (hP : va_P D vwCl (ws1 u) H) (hD : va_D A (ws1 u)) (hS : va_S A s.heap H locs) (hdg : decode cc pc = .ok (.ireturn, 1)) : W p l e R s m args below meth c H locs mc ms (MQ below (lw_Qi D cI cZ A ws1 post) args s mc ms A) (F0 m pc ls [.int v]) := by
  obtain ⟨hx, hb, hr, hml, hown, hts, hlocks, hN, hK, hA⟩ := C
  exact W.zret hx hb hr hn (fun t ht hW => ⟨⟨v, u, rfl, hv, by rw [ht]; exact hP, va_K.moved hW.alike hK, hD⟩, hS.F ht⟩) hS.2.2 hdg hlocks
theorem lw_fret {S : Type} {post : UInt32 → S → Prop} {ws1 : S → va_W} {mc ms : Nat} (C : lw_Cx D cI cZ p s m args meth c cc maxL (some .float) own A) (u : S) {v : UInt32} (hv : post v u) (hP : va_P D vwCl (ws1 u) H) (hD : va_D A (ws1 u)) (hS : va_S A s.heap H locs) (hdg : decode cc pc = .ok (.freturn, 1)) : W p l e R s m args below meth c H locs mc ms (MQ below (lw_Qf D cI cZ A ws1 post) args s mc ms A) (F0 m pc ls [.float v]) := by
  obtain ⟨hx, hb, hr, hml, hown, hts, hlocks, hN, hK, hA⟩ := C
  exact W.fret hx hb hr (fun t ht hW => ⟨⟨v, u, rfl, hv, by rw [ht]; exact hP, va_K.moved hW.alike hK, hD⟩, hS.F ht⟩) hS.2.2 hdg hlocks
theorem lw_vret {S : Type} {post : S → Prop} {ws1 : S → va_W} {mc ms : Nat} (C : lw_Cx D cI cZ p s m args meth c cc maxL none own A) (u : S) (hv : post u) (hP : va_P D vwCl (ws1 u) H) (hD : va_D A (ws1 u)) (hS : va_S A s.heap H locs) (hdg : decode cc pc = .ok (.return_, 1)) : W p l e R s m args below meth c H locs mc ms (MQ below (lw_Qv D cI cZ A ws1 post) args s mc ms A) (F0 m pc ls []) := by
  obtain ⟨hx, hb, hr, hml, hown, hts, hlocks, hN, hK, hA⟩ := C
  exact W.vret hx hb hr (fun t ht hW => ⟨⟨u, rfl, hv, by rw [ht]; exact hP, va_K.moved hW.alike hK, hD⟩, hS.F ht⟩) hS.2.2 hdg hlocks
theorem lw_blind {av : List Value} {ws : va_W} {sz : Nat} : FrameBlind (va_Pc av (lw_B D cI cZ ws sz)) := fun a U g mk q => by
  obtain ⟨q0, q1, qP, qK, qD, qN⟩ := q
  exact ⟨q0, q1, qP, va_K.moved (u := U) (U := U.calling g mk a) (Vm.Alike.refl U.vm) qK, qD, lw_N.same (u := U) (U := U.calling g mk a) rfl qN⟩
theorem lw_pre {av : List Value} {wc : va_W} (hN : lw_N s) (hK : va_K D vwCl [(cI, .int), (cZ, .boolean)] s) (hP : va_P D vwCl wc H) (hD : va_D A wc) : ∀ U : State, U.heap = H → s.WarmedH U.vm → va_Pc av (lw_B D cI cZ wc H.size) av.toArray U := fun U hU hW => ⟨rfl, by rw [hU], by rw [hU]; exact hP, va_K.moved hW.alike hK, hD.weaken (fun _ _ _ _ => trivial), hN.warm hW⟩
theorem lw_Psub {ws wc : va_W} (hP : va_P D vwCl ws H) (isC : List Nat) (hC : isC.map (fun i => ws[i]?) = wc.map some) : va_P D vwCl wc H := by
  refine hP.sub isC ?_
  have h : isC.filterMap (fun i => ws[i]?) = (isC.map (fun i => ws[i]?)).filterMap id := by rw [List.filterMap_map]; rfl
  rw [h, hC, List.filterMap_map]
  exact List.filterMap_some
variable {y : MethodName} {bytes : ByteArray} {mL mc ms index n : Nat} {rt : Option FieldType} {rm : Room} {wc ws : va_W} {As : List Value} {b : Nat} {Qc : Array Value → State → Outcome → State → Prop} {st0 : List Value}
abbrev lw_dn (y : MethodName) (n : Nat) : Prop := y.cls ≠ "java/lang/invoke/MethodHandle" ∧ y.cls ≠ "java/lang/invoke/VarHandle" ∧ (parseMethodDescriptor y.desc).map (fun d => d.parameters.length) = some n
abbrev lw_rm (R : Room) (cells slots mc ms mL : Nat) (rm : Room) : Prop := rm.cells = mc ∧ rm.slots = ms ∧ rm.frames + 1 ≤ R.frames ∧ 8 + (mL + 11) + rm.locals ≤ R.locals ∧ cells + mc ≤ R.cells ∧ slots + ms ≤ R.slots
theorem lw_g4 {a1 a2 a3 a4 : Cond} {ws : List Cond} (q1 : a1 ∈ lw_good) (q2 : a2 ∈ lw_good) (q3 : a3 ∈ lw_good) (q4 : a4 ∈ lw_good) (h : ∀ w ∈ ws, w ∈ lw_good) : ∀ w ∈ ([a1, a2, a3, a4] : List Cond) ++ ws, w ∈ lw_good := by
  intro w hw
  rcases List.mem_append.mp hw with h1 | h1
  · simp only [List.mem_cons, List.not_mem_nil, or_false] at h1
    rcases h1 with rfl | rfl | rfl | rfl <;> assumption
  · exact h w h1
theorem lw_g3 {a1 a2 a3 : Cond} {ws : List Cond} (q1 : a1 ∈ lw_good) (q2 : a2 ∈ lw_good) (q3 : a3 ∈ lw_good) (h : ∀ w ∈ ws, w ∈ lw_good) : ∀ w ∈ ([a1, a2, a3] : List Cond) ++ ws, w ∈ lw_good := by
  intro w hw
  rcases List.mem_append.mp hw with h1 | h1
  · simp only [List.mem_cons, List.not_mem_nil, or_false] at h1
    rcases h1 with rfl | rfl | rfl <;> assumption
  · exact h w h1
theorem lw_g1 {a1 : Cond} (q1 : a1 ∈ lw_good) : ∀ w ∈ a1 :: lw_good, w ∈ lw_good := fun w h => (List.mem_cons.mp h).elim (fun h2 => h2 ▸ q1) (fun h2 => h2)
/-- a call of an instance method, by a plain link -/
theorem lw_runV (C : lw_Cx D cI cZ p s m args meth c cc maxL ret own A) (hP : va_P D vwCl ws H) (hD : va_D A ws) (isC : List Nat) (hC : isC.map (fun i => ws[i]?) = wc.map some) (hnd : va_nd isC = true) (ci : Nat) {q : vw_C} {fs : List Value} (hc : vwCl[ci]? = some q) (hcv : wc[0]? = some (b, .inr (ci, fs))) (hq : q.1 = y.cls)
    (hM : Met l y (Cond.code y bytes mL rt :: lw_good) rm (va_Pc (.ref b :: As) (lw_B D cI cZ wc H.size)) Qc mc ms (va_A wc H.size))
    (q1 : Cond.code y bytes mL rt ∈ lw_good) (q2 : Cond.methodLink own index y ∈ lw_good) (q3 : Cond.instanceMethod y ∈ lw_good) (q4 : Cond.selects y.cls y y ∈ lw_good) (q5 : Cond.initialized y.cls ∈ lw_good) (hd : lw_dn y n) (hn : As.length = n) (hR : lw_rm R cells slots mc ms mL rm)
    (hls : ls.size = maxL) (hst : st0 = As.reverse ++ .ref b :: rest) (hw : (rest.map fun v => v.category).sum ≤ 8) (hdg : decode cc pc = .ok (.invokevirtual index, 3)) : va_Run p l e R s m args below meth c H locs cells slots mc ms (F0 m pc ls st0) rest (Qc (Value.ref b :: As).toArray) (va_A wc H.size) := by
  obtain ⟨hx, hb, hr, hml, hown, hts, hlocks, hN, hK, hA⟩ := C
  have hPc := lw_Psub hP isC hC
  have hDc := hD.sub isC hnd hC
  obtain ⟨r1, r2, r3, r4, r5, r6⟩ := hR
  refine va_runV (As := As) (rest := rest) (C := y.cls) ⟨hx, hb, hml, hown, hts⟩ hM (cwV n hts (lw_gi (lw_g4 q2 q3 q4 q5 (lw_g1 q1))) rfl r1 r2 ⟨rfl, hd⟩ ⟨r3, r4⟩) ⟨lw_blind, ?_, lw_pre (av := .ref b :: As) hN hK hPc hDc⟩ rfl hn hls hst (lv_room hw) hdg ⟨r5, r6⟩
  rw [← hq]
  exact va_recv hK hPc (ci := ci) (q0 := 0) hc hcv
/-- of a nest mate's private instance method -/
theorem lw_runVN {host : String} (C : lw_Cx D cI cZ p s m args meth c cc maxL ret own A) (hP : va_P D vwCl ws H) (hD : va_D A ws) (isC : List Nat) (hC : isC.map (fun i => ws[i]?) = wc.map some) (hnd : va_nd isC = true) (ci : Nat) {q : vw_C} {fs : List Value} (hc : vwCl[ci]? = some q) (hcv : wc[0]? = some (b, .inr (ci, fs))) (hq : q.1 = y.cls)
    (hM : Met l y (Cond.code y bytes mL rt :: lw_good) rm (va_Pc (.ref b :: As) (lw_B D cI cZ wc H.size)) Qc mc ms (va_A wc H.size))
    (q1 : Cond.code y bytes mL rt ∈ lw_good) (q2 : Cond.methodLinkNest own index y host ∈ lw_nest) (q3 : Cond.instanceMethod y ∈ lw_good) (q4 : Cond.selects y.cls y y ∈ lw_good) (q5 : Cond.initialized y.cls ∈ lw_good) (hd : lw_dn y n) (hn : As.length = n) (hR : lw_rm R cells slots mc ms mL rm)
    (hls : ls.size = maxL) (hst : st0 = As.reverse ++ .ref b :: rest) (hw : (rest.map fun v => v.category).sum ≤ 8) (hdg : decode cc pc = .ok (.invokevirtual index, 3)) : va_Run p l e R s m args below meth c H locs cells slots mc ms (F0 m pc ls st0) rest (Qc (Value.ref b :: As).toArray) (va_A wc H.size) := by
  obtain ⟨hx, hb, hr, hml, hown, hts, hlocks, hN, hK, hA⟩ := C
  have hPc := lw_Psub hP isC hC
  have hDc := hD.sub isC hnd hC
  obtain ⟨r1, r2, r3, r4, r5, r6⟩ := hR
  refine va_runVN (As := As) (rest := rest) (C := y.cls) ⟨hx, hb, hml, hown, hts⟩ hM ⟨va_cnB n hts (lw_gi (lw_g1 q1)) rfl r1 r2 (hN _ q2) (hts _ q5) hd ⟨r3, r4⟩, hts _ q3, hts _ q4⟩ ⟨lw_blind, ?_, lw_pre (av := .ref b :: As) hN hK hPc hDc⟩ rfl hn hls hst (lv_room hw) hdg ⟨r5, r6⟩
  rw [← hq]
  exact va_recv hK hPc (ci := ci) (q0 := 0) hc hcv
/-- of a static method -/
theorem lw_runS (C : lw_Cx D cI cZ p s m args meth c cc maxL ret own A) (hP : va_P D vwCl ws H) (hD : va_D A ws) (isC : List Nat) (hC : isC.map (fun i => ws[i]?) = wc.map some) (hnd : va_nd isC = true)
    (hM : Met l y (Cond.code y bytes mL rt :: lw_good) rm (va_Pc (As) (lw_B D cI cZ wc H.size)) Qc mc ms (va_A wc H.size))
    (q1 : Cond.code y bytes mL rt ∈ lw_good) (q2 : Cond.methodLink own index y ∈ lw_good) (q3 : Cond.static y ∈ lw_good) (q5 : Cond.initialized y.cls ∈ lw_good) (hd : lw_dn y n) (hn : As.length = n) (hR : lw_rm R cells slots mc ms mL rm)
    (hls : ls.size = maxL) (hst : st0 = As.reverse ++ rest) (hw : (rest.map fun v => v.category).sum ≤ 8) (hdg : decode cc pc = .ok (.invokestatic index, 3)) : va_Run p l e R s m args below meth c H locs cells slots mc ms (F0 m pc ls st0) rest (Qc (As).toArray) (va_A wc H.size) := by
  obtain ⟨hx, hb, hr, hml, hown, hts, hlocks, hN, hK, hA⟩ := C
  have hPc := lw_Psub hP isC hC
  have hDc := hD.sub isC hnd hC
  obtain ⟨r1, r2, r3, r4, r5, r6⟩ := hR
  exact va_runS (As := As) (rest := rest) ⟨hx, hb, hml, hown, hts⟩ hM (va_cwS n hts (lw_gi (lw_g3 q2 q3 q5 (lw_g1 q1))) rfl r1 r2 hd ⟨r3, r4⟩) ⟨lw_blind, lw_pre (av := As) hN hK hPc hDc⟩ rfl hn hls hst (lv_room hw) hdg ⟨r5, r6⟩
/-- of a nest mate's private static method -/
theorem lw_runSN {host : String} (C : lw_Cx D cI cZ p s m args meth c cc maxL ret own A) (hP : va_P D vwCl ws H) (hD : va_D A ws) (isC : List Nat) (hC : isC.map (fun i => ws[i]?) = wc.map some) (hnd : va_nd isC = true)
    (hM : Met l y (Cond.code y bytes mL rt :: lw_good) rm (va_Pc (As) (lw_B D cI cZ wc H.size)) Qc mc ms (va_A wc H.size))
    (q1 : Cond.code y bytes mL rt ∈ lw_good) (q2 : Cond.methodLinkNest own index y host ∈ lw_nest) (q3 : Cond.static y ∈ lw_good) (q5 : Cond.initialized y.cls ∈ lw_good) (hd : lw_dn y n) (hn : As.length = n) (hR : lw_rm R cells slots mc ms mL rm)
    (hls : ls.size = maxL) (hst : st0 = As.reverse ++ rest) (hw : (rest.map fun v => v.category).sum ≤ 8) (hdg : decode cc pc = .ok (.invokestatic index, 3)) : va_Run p l e R s m args below meth c H locs cells slots mc ms (F0 m pc ls st0) rest (Qc (As).toArray) (va_A wc H.size) := by
  obtain ⟨hx, hb, hr, hml, hown, hts, hlocks, hN, hK, hA⟩ := C
  have hPc := lw_Psub hP isC hC
  have hDc := hD.sub isC hnd hC
  obtain ⟨r1, r2, r3, r4, r5, r6⟩ := hR
  exact va_runSN (As := As) (rest := rest) ⟨hx, hb, hml, hown, hts⟩ hM ⟨va_cnB n hts (lw_gi (lw_g1 q1)) rfl r1 r2 (hN _ q2) (hts _ q5) hd ⟨r3, r4⟩, hts _ q3, trivial⟩ ⟨lw_blind, lw_pre (av := As) hN hK hPc hDc⟩ rfl hn hls hst (lv_room hw) hdg ⟨r5, r6⟩
/-- of a constructor -/
theorem lw_runI (C : lw_Cx D cI cZ p s m args meth c cc maxL ret own A) (hP : va_P D vwCl ws H) (hD : va_D A ws) (isC : List Nat) (hC : isC.map (fun i => ws[i]?) = wc.map some) (hnd : va_nd isC = true)
    (hM : Met l y (Cond.code y bytes mL none :: lw_good) rm (va_Pc (.ref b :: As) (lw_B D cI cZ wc H.size)) Qc mc ms (va_A wc H.size))
    (q1 : Cond.code y bytes mL none ∈ lw_good) (q2 : Cond.methodLink own index y ∈ lw_good) (q3 : Cond.instanceMethod y ∈ lw_good) (q5 : Cond.initialized y.cls ∈ lw_good) (hy1 : y.name = "<init>") (hd : lw_dn y n) (hn : As.length = n) (hR : lw_rm R cells slots mc ms mL rm)
    (hls : ls.size = maxL) (hst : st0 = As.reverse ++ .ref b :: rest) (hw : (rest.map fun v => v.category).sum ≤ 8) (hdg : decode cc pc = .ok (.invokespecial index, 3)) : va_Run p l e R s m args below meth c H locs cells slots mc ms (F0 m pc ls st0) rest (Qc (Value.ref b :: As).toArray) (va_A wc H.size) := by
  obtain ⟨hx, hb, hr, hml, hown, hts, hlocks, hN, hK, hA⟩ := C
  have hPc := lw_Psub hP isC hC
  have hDc := hD.sub isC hnd hC
  obtain ⟨r1, r2, r3, r4, r5, r6⟩ := hR
  exact va_runI (As := As) (rest := rest) ⟨hx, hb, hml, hown, hts⟩ hM (cwI n hts (lw_gi (lw_g1 q1)) rfl r1 r2 (hts _ q5) (hts _ q2) (hts _ q3) hy1 hd ⟨r3, r4⟩) ⟨lw_blind, lw_pre (av := .ref b :: As) hN hK hPc hDc⟩ rfl hn hls hst (lv_room hw) hdg ⟨r5, r6⟩
/-- of a nest mate's private constructor -/
theorem lw_runIN {host : String} (C : lw_Cx D cI cZ p s m args meth c cc maxL ret own A) (hP : va_P D vwCl ws H) (hD : va_D A ws) (isC : List Nat) (hC : isC.map (fun i => ws[i]?) = wc.map some) (hnd : va_nd isC = true)
    (hM : Met l y (Cond.code y bytes mL none :: lw_good) rm (va_Pc (.ref b :: As) (lw_B D cI cZ wc H.size)) Qc mc ms (va_A wc H.size))
    (q1 : Cond.code y bytes mL none ∈ lw_good) (q2 : Cond.methodLinkNest own index y host ∈ lw_nest) (q3 : Cond.instanceMethod y ∈ lw_good) (q5 : Cond.initialized y.cls ∈ lw_good) (hy1 : y.name = "<init>") (hd : lw_dn y n) (hn : As.length = n) (hR : lw_rm R cells slots mc ms mL rm)
    (hls : ls.size = maxL) (hst : st0 = As.reverse ++ .ref b :: rest) (hw : (rest.map fun v => v.category).sum ≤ 8) (hdg : decode cc pc = .ok (.invokespecial index, 3)) : va_Run p l e R s m args below meth c H locs cells slots mc ms (F0 m pc ls st0) rest (Qc (Value.ref b :: As).toArray) (va_A wc H.size) := by
  obtain ⟨hx, hb, hr, hml, hown, hts, hlocks, hN, hK, hA⟩ := C
  have hPc := lw_Psub hP isC hC
  have hDc := hD.sub isC hnd hC
  obtain ⟨r1, r2, r3, r4, r5, r6⟩ := hR
  exact va_runIN (As := As) (rest := rest) ⟨hx, hb, hml, hown, hts⟩ hM ⟨va_cnB n hts (lw_gi (lw_g1 q1)) rfl r1 r2 (hN _ q2) (hts _ q5) hd ⟨r3, r4⟩, hy1, hts _ q3⟩ ⟨lw_blind, lw_pre (av := .ref b :: As) hN hK hPc hDc⟩ rfl hn hls hst (lv_room hw) hdg ⟨r5, r6⟩
theorem lw_calli {S : Type} {post : Int32 → S → Prop} {w1 : S → va_W} {wr : va_W} {a : Array Value} (C : lw_Cx D cI cZ p s m args meth c cc maxL ret own A) (hr : va_Run p l e R s m args below meth c H locs cells slots mc ms (F0 m pc ls st0) rest (lw_Qi D cI cZ (va_A wc H.size) w1 post a) (va_A wc H.size)) (hP : va_P D vwCl ws H) (hD : va_D A ws) (hS : va_S A s.heap H locs) (isC isR : List Nat) (hC : isC.map (fun i => ws[i]?) = wc.map some) (hRr : isR.map (fun i => ws[i]?) = wr.map some) (hnr : va_nd isR = true) (hdis : ∀ i ∈ isR, i ∉ isC)
    (kk : ∀ (r : Int32) (u : S) (H1 : Heap) (locs1 : List Loc), post r u → va_P D vwCl (wr ++ w1 u) H1 → va_D A (wr ++ w1 u) → va_S A s.heap H1 locs1 → W p l e R s m args below meth c H1 locs1 (cells + mc) (slots + ms) Q (F0 m (pc + 3) ls (.int r :: rest))) : W p l e R s m args below meth c H locs cells slots Q (F0 m pc ls st0) := by
  obtain ⟨hx, hb, hr9, hml, hown, hts, hlocks, hN, hK, hA⟩ := C
  have hFc := va_free (wc := wc) hD hS hA isC hC
  refine va_calli hr hS (fun q _ h => hFc q h) hFc (fun r u t H1 locs1 ht hvm hw hB hz1 hk1 hS1 => ?_)
  obtain ⟨hP1, hK1, hD1⟩ := hB
  rw [ht] at hP1
  obtain ⟨hP2, hD2⟩ := va_join (wr := wr) (w1 := w1 u) hP hD isC isR hC hRr hnr hdis hk1 hFc hP1 hD1
  exact kk r u H1 locs1 hw hP2 hD2 hS1
theorem lw_callf {S : Type} {post : UInt32 → S → Prop} {w1 : S → va_W} {wr : va_W} {a : Array Value} (C : lw_Cx D cI cZ p s m args meth c cc maxL ret own A) (hr : va_Run p l e R s m args below meth c H locs cells slots mc ms (F0 m pc ls st0) rest (lw_Qf D cI cZ (va_A wc H.size) w1 post a) (va_A wc H.size)) (hP : va_P D vwCl ws H) (hD : va_D A ws) (hS : va_S A s.heap H locs) (isC isR : List Nat) (hC : isC.map (fun i => ws[i]?) = wc.map some) (hRr : isR.map (fun i => ws[i]?) = wr.map some) (hnr : va_nd isR = true) (hdis : ∀ i ∈ isR, i ∉ isC)
    (kk : ∀ (r : UInt32) (u : S) (H1 : Heap) (locs1 : List Loc), post r u → va_P D vwCl (wr ++ w1 u) H1 → va_D A (wr ++ w1 u) → va_S A s.heap H1 locs1 → W p l e R s m args below meth c H1 locs1 (cells + mc) (slots + ms) Q (F0 m (pc + 3) ls (.float r :: rest))) : W p l e R s m args below meth c H locs cells slots Q (F0 m pc ls st0) := by
  obtain ⟨hx, hb, hr9, hml, hown, hts, hlocks, hN, hK, hA⟩ := C
  have hFc := va_free (wc := wc) hD hS hA isC hC
  refine va_callf hr hS (fun q _ h => hFc q h) hFc (fun r u t H1 locs1 ht hvm hw hB hz1 hk1 hS1 => ?_)
  obtain ⟨hP1, hK1, hD1⟩ := hB
  rw [ht] at hP1
  obtain ⟨hP2, hD2⟩ := va_join (wr := wr) (w1 := w1 u) hP hD isC isR hC hRr hnr hdis hk1 hFc hP1 hD1
  exact kk r u H1 locs1 hw hP2 hD2 hS1
theorem lw_callv {S : Type} {post : S → Prop} {w1 : S → va_W} {wr : va_W} {a : Array Value} (C : lw_Cx D cI cZ p s m args meth c cc maxL ret own A) (hr : va_Run p l e R s m args below meth c H locs cells slots mc ms (F0 m pc ls st0) rest (lw_Qv D cI cZ (va_A wc H.size) w1 post a) (va_A wc H.size)) (hP : va_P D vwCl ws H) (hD : va_D A ws) (hS : va_S A s.heap H locs) (isC isR : List Nat) (hC : isC.map (fun i => ws[i]?) = wc.map some) (hRr : isR.map (fun i => ws[i]?) = wr.map some) (hnr : va_nd isR = true) (hdis : ∀ i ∈ isR, i ∉ isC)
    (kk : ∀ (u : S) (H1 : Heap) (locs1 : List Loc), post u → va_P D vwCl (wr ++ w1 u) H1 → va_D A (wr ++ w1 u) → va_S A s.heap H1 locs1 → W p l e R s m args below meth c H1 locs1 (cells + mc) (slots + ms) Q (F0 m (pc + 3) ls (rest))) : W p l e R s m args below meth c H locs cells slots Q (F0 m pc ls st0) := by
  obtain ⟨hx, hb, hr9, hml, hown, hts, hlocks, hN, hK, hA⟩ := C
  have hFc := va_free (wc := wc) hD hS hA isC hC
  refine va_callv hr hS (fun q _ h => hFc q h) hFc (fun u t H1 locs1 ht hvm hw hB hz1 hk1 hS1 => ?_)
  obtain ⟨hP1, hK1, hD1⟩ := hB
  rw [ht] at hP1
  obtain ⟨hP2, hD2⟩ := va_join (wr := wr) (w1 := w1 u) hP hD isC isR hC hRr hnr hdis hk1 hFc hP1 hD1
  exact kk u H1 locs1 hw hP2 hD2 hS1
end LwBase
