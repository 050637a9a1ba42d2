/-! constructors: contracts that make cells -/
def CNv (l : Launch) (G : va_G) (kc : Nat → ClassId) (y : MethodName) (b : ByteArray) (n : Nat) (rm : Room) (av : List Value) (w0 : va_W) {S : Type} (w1 : S → va_W) (mc ms : Nat) : Prop := ∀ sz, Met l y (wm y b n none) rm (va_Pc av (Cin G kc w0 sz)) (va_Qv (fun (_ : S) => True) (fun u t => Cout G kc (va_A w0 sz) (w1 u) t) (va_A w0 sz)) mc ms (va_A w0 sz)
def CNz (l : Launch) (G : va_G) (kc : Nat → ClassId) (z0 : Nat) (y : MethodName) (b : ByteArray) (n : Nat) (rm : Room) (av : List Value) (w0 : va_W) {S : Type} (w1 : S → va_W) (mc ms : Nat) : Prop := ∀ sz, Met l y (wm y b n none) rm (va_Pc av (Cinz G kc z0 w0 sz)) (va_Qv (fun (_ : S) => True) (fun u t => Cout G kc (va_A w0 sz) (w1 u) t) (va_A w0 sz)) mc ms (va_A w0 sz)
abbrev EQn (G : va_G) (kc : Nat → ClassId) (below : List Frame) (s : State) (args : Array Value) (A : Nat → Prop) {S : Type} (w1 : S → va_W) (mc ms : Nat) : State → Prop := MQ below (va_Qv (fun (_ : S) => True) (fun u t => Cout G kc A (w1 u) t) A) args s mc ms A
abbrev rmc (f n c k : Nat) : Room := { frames := f, cells := c, slots := k, locals := n }
theorem CNv.mk {l : Launch} {G : va_G} {kc : Nat → ClassId} {y : MethodName} {b : ByteArray} {n : Nat} {f k mc ms : Nat} {av : List Value} {w0 : va_W} {S : Type} {w1 : S → va_W} (hy : plainName y.cls = true) (hin : y.name = "<init>") (hn : (lg_sl av).length ≤ n)
    (body : ∀ (p : Program) (e : Env) (s : State) (m : MethodId) (args : Array Value) (below : List Frame) (meth : Method) (c : Code) (A : Nat → Prop) (ls : Array Slot) (Q : State → Prop), Q = EQn G kc below s args A w1 mc ms → CallFix p m c b n s args gwl y.cls → meth.sig.returnType = none → meth.locks = false → meth.name = "<init>" → NW s → (∀ q, s.heap.size ≤ q → A q) → VK G kc s → lv_has ls n (lv_args 0 av) → VP G w0 s.heap → va_D A w0 → va_S A s.heap s.heap [] → W p l e (rmc f k mc ms) s m args below meth c s.heap [] 0 0 Q (F0 m 0 ls [])) : CNv l G kc y b n (rmc f k mc ms) av w0 w1 mc ms := by
  intro sz
  refine Met.ofW (cc := b) (maxL := n) (ret := none) hy rfl ?_
  intro p e s m args below meth c s₁ B hml hv
  obtain ⟨rfl, hsz, hP, hK, hD0, hN⟩ := hv
  have hts := atoms_spec (ws := wm y b n none) B.pre
  subst hsz
  have hD := hD0.self (sz := s.heap.size)
  have hl := lv_entry av (n := n) hn
  rw [lg_entry_eq]
  exact body p e s m _ below meth c _ _ _ rfl ⟨B.exec, B.bytes, hml, findClass_of_methodNamed B.named, fun w hw => hts w (List.mem_cons_of_mem _ hw)⟩ B.returns B.notSynchronized ((name_of_methodNamed B.named B.method).1.trans hin) hN (fun q h => Or.inr h) hK hl hP hD va_S.rf
theorem CNz.mk {l : Launch} {G : va_G} {kc : Nat → ClassId} {z0 : Nat} {y : MethodName} {b : ByteArray} {n : Nat} {f k mc ms : Nat} {av : List Value} {w0 : va_W} {S : Type} {w1 : S → va_W} (hy : plainName y.cls = true) (hin : y.name = "<init>") (hn : (lg_sl av).length ≤ n)
    (body : ∀ (p : Program) (e : Env) (s : State) (m : MethodId) (args : Array Value) (below : List Frame) (meth : Method) (c : Code) (A : Nat → Prop) (ls : Array Slot) (Q : State → Prop), SZ z0 s s.heap → (∀ q, A q → z0 ≤ q) → z0 ≤ s.heap.size → Q = EQn G kc below s args A w1 mc ms → CallFix p m c b n s args gwl y.cls → meth.sig.returnType = none → meth.locks = false → meth.name = "<init>" → NW s → (∀ q, s.heap.size ≤ q → A q) → VK G kc s → lv_has ls n (lv_args 0 av) → VP G w0 s.heap → va_D A w0 → va_S A s.heap s.heap [] → W p l e (rmc f k mc ms) s m args below meth c s.heap [] 0 0 Q (F0 m 0 ls [])) : CNz l G kc z0 y b n (rmc f k mc ms) av w0 w1 mc ms := by
  intro sz
  refine Met.ofW (cc := b) (maxL := n) (ret := none) hy rfl ?_
  intro p e s m args below meth c s₁ B hml hv
  obtain ⟨rfl, ⟨hsz, hP, hK, hD0, hN⟩, hz, hDz, hZ⟩ := hv
  have hts := atoms_spec (ws := wm y b n none) B.pre
  subst hsz
  have hD := hD0.self (sz := s.heap.size)
  have hl := lv_entry av (n := n) hn
  rw [lg_entry_eq]
  refine body p e s m _ below meth c _ _ _ hZ (fun q h => ?_) hz rfl ⟨B.exec, B.bytes, hml, findClass_of_methodNamed B.named, fun w hw => hts w (List.mem_cons_of_mem _ hw)⟩ B.returns B.notSynchronized ((name_of_methodNamed B.named B.method).1.trans hin) hN (fun q h => Or.inr h) hK hl hP hD va_S.rf
  rcases h with ⟨k, e, h⟩ | h
  · exact hDz.2 k (q, e) h
  · omega
def NC (own : String) (idx ci : Nat) (fs : List Value) : Prop := ∃ (C : String) (T : u_T) (N : Nat) (ty : Nat → FieldType), vwCl[ci]? = some (C, T, N) ∧ fs.length = N ∧ (∀ w ∈ u_ws C T N, w ∈ gwl) ∧ (∀ k, k < N → parseFieldDescriptor (T k).2.2.1 = some (ty k)) ∧ (∀ j, j < N → fs[j]? = some (defaultValue (ty j))) ∧ Cond.classLink own idx C ∈ gwl ∧ Cond.instantiable C N ∈ gwl ∧ Cond.initialized C ∈ gwl
def FF (own : String) (idx ci k : Nat) (ty : FieldType) : Prop := ∃ (C : String) (T : u_T) (N : Nat) (tf : Nat → FieldType), vwCl[ci]? = some (C, T, N) ∧ k < N ∧ (∀ w ∈ u_ws C T N, w ∈ gwl) ∧ Cond.fieldLink own idx (T k).1 (T k).2.1 (T k).2.2.1 ∈ gwl ∧ (∀ k, k < N → parseFieldDescriptor (T k).2.2.1 = some (tf k)) ∧ (∀ a, a < N → ∀ b, b < N → a ≠ b → (T a).2.1 ≠ (T b).2.1) ∧ (T k).2.2.2 = true ∧ (T k).1 = own ∧ parseFieldDescriptor (T k).2.2.1 = some ty
section ROWSI
variable {p : Program} {l : Launch} {e : Env} {R : Room} {s : State} {m : MethodId} {args : Array Value} {below : List Frame} {meth : Method} {c : Code} {H : Heap} {locs : List Loc} {Q : State → Prop} {CE SL : Nat}
variable {cc : ByteArray} {pc nL : Nat} {ls : Array Slot} {rest st0 : List Value} {G : va_G} {kc : Nat → ClassId} {A : Nat → Prop} {a : Nat} {ws wc : va_W}
variable {y : MethodName} {b : ByteArray} {n idx k f g mc ms : Nat} {own : String} {As : List Value}
theorem i_obj (S : CallFix p m c cc nL s args gwl own) (hl : Cond.methodLink own idx objectInit ∈ gwl) (hi : Cond.instanceMethod objectInit ∈ gwl) (hc : Cond.code objectInit ⟨#[0xb1]⟩ 1 none ∈ gwl) (hls : ls.size = nL) (hdg : decode cc pc = .ok (.invokespecial idx, 3)) (hf : 1 ≤ R.frames) (hlo : (rest.map fun v => v.category).sum + 12 ≤ R.locals) (kk : W p l e R s m args below meth c H locs CE SL Q (F0 m (pc + 3) ls rest)) : W p l e R s m args below meth c H locs CE SL Q (F0 m pc ls (.ref a :: rest)) := by
  obtain ⟨hx, hb, hml, hown, hts⟩ := S
  exact W.objInit hx hb hown (hts _ hl) (hts _ hi) (hts _ hc) rfl (by rw [hml]; exact hls) rfl hdg hf (by show 2 * 0 + _ + 12 ≤ _; omega) kk
theorem i_newa {atype : ArrayType} {ty : FieldType} (ti : Nat) (a0 : vp_A) (S : CallFix p m c cc nL s args gwl own) (harr : Cond.arrayClass (newarray.typeOf atype) ∈ gwl) (hty : newarray.typeOf atype = ty) (hK : VK G kc s) (ht : (ty5 kc)[ti]? = some (kc ti, ty)) (hnm : va_RA s (kc ti) ty → s.vm.findClass ("[" ++ ty.toString) = some (kc ti)) (hP : VP G ws H) (hD : va_D A ws) (hS : va_S A s.heap H locs) (hA : ∀ q, s.heap.size ≤ q → A q) {n : Int32} {N' : Nat} (ha : ∀ cA : ClassId, vp_cell cA a0 = arrV cA N' (fun _ => defaultValue ty)) (hn : ¬ n < 0) (hN : n.toNatClampNeg = N') (hbytes : N' * componentBytes ty ≤ 536870912) (hcells : CE + 1 ≤ R.cells) (hslots : SL + N' ≤ R.slots) (hdg : decode cc pc = .ok (.newarray atype, 2))
    (kk : ∀ (q : Nat) (H1 : Heap), VP G (ws ++ [(q, .inl (kc ti, a0))]) H1 → va_D A (ws ++ [(q, .inl (kc ti, a0))]) → va_S A s.heap H1 locs → W p l e R s m args below meth c H1 locs (CE + 1) (SL + N') Q (F0 m (pc + 2) ls (.ref q :: rest))) : W p l e R s m args below meth c H locs CE SL Q (F0 m pc ls (.int n :: rest)) := by
  obtain ⟨hx, hb, hml, hown, hts⟩ := S
  refine va_newa (a0 := a0) hx hb (hts _ harr) hty hK hP hD hS hA ha hn hN hbytes hcells hslots hdg (fun q cA H1 hK1 hP1 hD1 hS1 => ?_)
  have h1 := hnm (hK.2 ti _ ht).2
  have h2 : va_RA s cA ty := (hK1.2 5 (cA, ty) rfl).2
  have h3 : s.vm.findClass ("[" ++ ty.toString) = some cA := by
    subst hty
    cases atype <;> exact h2
  have e1 : cA = kc ti := Option.some.inj (h3.symm.trans h1)
  subst e1
  exact kk q H1 hP1 hD1 hS1
theorem i_new {ci : Nat} {fs : List Value} (S : CallFix p m c cc nL s args gwl own) (hF : NC own idx ci fs) (hK : VK G kc s) (hP : VP G ws H) (hD : va_D A ws) (hS : va_S A s.heap H locs) (hA : ∀ q, s.heap.size ≤ q → A q) (hcells : CE + 1 ≤ R.cells) (hslots : SL + fs.length ≤ R.slots) (hdg : decode cc pc = .ok (.new idx, 3))
    (kk : ∀ (q : Nat) (H1 : Heap), VP G (ws ++ [(q, .inr (ci, fs))]) H1 → va_D A (ws ++ [(q, .inr (ci, fs))]) → va_S A s.heap H1 locs → W p l e R s m args below meth c H1 locs (CE + 1) (SL + fs.length) Q (F0 m (pc + 3) ls (.ref q :: rest))) : W p l e R s m args below meth c H locs CE SL Q (F0 m pc ls rest) := by
  obtain ⟨hx, hb, hml, hown, hts⟩ := S
  obtain ⟨C, T, N, ty, h1, h2, h3, h4, h5, h6, h7, h8⟩ := hF
  subst h2
  exact va_new (ci := ci) (fs := fs) hx hb hts h3 ty h4 hown (hts _ h6) (hts _ h7) (hts _ h8) hK hP hD hS hA h1 (fun j hj => by show _ = fs.getD j .null; rw [List.getD_eq_getElem?_getD, h5 j hj]; rfl) hcells hslots hdg kk
theorem i_putF {ci : Nat} {ty : FieldType} (S : CallFix p m c cc nL s args gwl own) (hin : meth.name = "<init>") (hF : FF own idx ci k ty) (hK : VK G kc s) (hP : VP G ws H) (hD : va_D A ws) (hS : va_S A s.heap H locs) (q0 : Nat) {fs : List Value} {v : Value} (he : ws[q0]? = some (a, .inr (ci, fs))) (hl : k < fs.length) (hn : narrow ty v = v) (hfit : fits ty v = true) (hdg : decode cc pc = .ok (.putfield idx, 3))
    (kk : ∀ (H1 : Heap) (locs1 : List Loc), VP G (ws.set q0 (a, .inr (ci, fs.set k v))) H1 → va_D A (ws.set q0 (a, .inr (ci, fs.set k v))) → va_S A s.heap H1 locs1 → W p l e R s m args below meth c H1 locs1 CE SL Q (F0 m (pc + 3) ls rest)) : W p l e R s m args below meth c H locs CE SL Q (F0 m pc ls (v :: .ref a :: rest)) := by
  obtain ⟨C, T, N, tf, h1, h2, h3, h4, h5, h6, h7, h8, h9⟩ := hF
  obtain ⟨hx, hb, -, hown, hts⟩ := S
  exact va_putF hx hb hts h3 tf h5 h6 hown hK hP hD hS q0 he h1 k h2 (hts _ h4) (fun _ h => h) h7 hin h8 h9 hn hfit hl hdg kk
theorem i_put {ci : Nat} (S : CallFix p m c cc nL s args gwl own) (hF : PF own idx ci k) (hK : VK G kc s) (hP : VP G ws H) (hD : va_D A ws) (hS : va_S A s.heap H locs) (q0 : Nat) {fs : List Value} {v : Int32} (he : ws[q0]? = some (a, .inr (ci, fs))) (hl : k < fs.length) (hdg : decode cc pc = .ok (.putfield idx, 3))
    (kk : ∀ (H1 : Heap) (locs1 : List Loc), VP G (ws.set q0 (a, .inr (ci, fs.set k (.int v)))) H1 → va_D A (ws.set q0 (a, .inr (ci, fs.set k (.int v)))) → va_S A s.heap H1 locs1 → W p l e R s m args below meth c H1 locs1 CE SL Q (F0 m (pc + 3) ls rest)) : W p l e R s m args below meth c H locs CE SL Q (F0 m pc ls (.int v :: .ref a :: rest)) := by
  obtain ⟨C, T, N, ty, h1, h2, h3, h4, h5, h6, h7, h8⟩ := hF
  obtain ⟨hx, hb, -, hown, hts⟩ := S
  exact va_put hx hb hts h3 ty h5 h6 hown hK hP hD hS q0 he h1 k h2 (hts _ h4) (fun _ h => h) h7 h8 rfl rfl hl hdg kk
theorem i_get {ci : Nat} (S : CallFix p m c cc nL s args gwl own) (hF : GF own idx ci k) (hK : VK G kc s) (hP : VP G ws H) (q0 : Nat) {fs : List Value} {v : Value} (he : ws[q0]? = some (a, .inr (ci, fs))) (hv : fs[k]? = some v) (hdg : decode cc pc = .ok (.getfield idx, 3))
    (kk : W p l e R s m args below meth c H locs CE SL Q (F0 m (pc + 3) ls (v :: rest))) : W p l e R s m args below meth c H locs CE SL Q (F0 m pc ls (.ref a :: rest)) := by
  obtain ⟨C, T, N, h1, h2, h3, h4⟩ := hF
  obtain ⟨hx, hb, -, hown, hts⟩ := S
  exact va_get hx hb hts h3 hown hK hP q0 he h1 k h2 (hts _ h4) (fun _ h => h) hv hdg kk
theorem i_iast (hexec : p.tables.exec = Jvm.exec) (hb : c.code = cc) (hK : VK G kc s) (hP : VP G ws H) (hD : va_D A ws) (hS : va_S A s.heap H locs) (q0 : Nat) {n : Nat} {f : Nat → Int32} (ha : ws[q0]? = some (a, .inl (kc 0, n, .inl f))) {i v : Int32} {j : Nat} (hi : ¬ (i < 0 ∨ n ≤ i.toNatClampNeg)) (hj : i.toNatClampNeg = j) (hdg : decode cc pc = .ok (.iastore, 1))
    (kk : ∀ (H1 : Heap) (locs1 : List Loc), VP G (ws.set q0 (a, .inl (kc 0, n, .inl (upd f j v)))) H1 → va_D A (ws.set q0 (a, .inl (kc 0, n, .inl (upd f j v)))) → va_S A s.heap H1 locs1 → W p l e R s m args below meth c H1 locs1 CE SL Q (F0 m (pc + 1) ls rest)) : W p l e R s m args below meth c H locs CE SL Q (F0 m pc ls (.int v :: .int i :: .ref a :: rest)) := by
  subst hj
  exact va_iast hexec hb hK hP hD hS q0 0 ha rfl hi hdg kk
theorem i_ret {S : Type} {w1 : S → va_W} (u : S) (hexec : p.tables.exec = Jvm.exec) (hb : c.code = cc) (hr : meth.sig.returnType = none) (hQ : Q = EQn G kc below s args A w1 mc ms) (hlocks : meth.locks = false) (hK : VK G kc s) (hP : VP G (w1 u) H) (hD : va_D A (w1 u)) (hS : va_S A s.heap H locs) (hdg : decode cc pc = .ok (.return_, 1)) : W p l e R s m args below meth c H locs mc ms Q (F0 m pc ls []) := by
  subst hQ
  exact W.vret hexec hb hr (fun t ht hW => ⟨⟨u, rfl, trivial, by rw [ht]; exact hP, va_K.moved hW.alike hK, hD⟩, hS.F ht⟩) hS.2.2 hdg hlocks
/-- what the callee made comes behind the rest -/
theorem i_join {A0 : Nat → Prop} {D : va_G} {cl : List vw_C} {X wc w1 : va_W} {H H1 : Heap} (hP : va_P D cl (X ++ wc) H) (hD : va_D A0 (X ++ wc)) (hF : ∀ q, va_A wc H.size q → A0 q)
    (hk : ∀ q : Nat, q < H.size → ¬ va_A wc H.size q → H1[q]? = H[q]?) (hP1 : va_P D cl w1 H1) (hD1 : va_D (va_A wc H.size) w1) : va_P D cl (X ++ w1) H1 ∧ va_D A0 (X ++ w1) := by
  have hXa : ∀ x ∈ X, ¬ va_A wc H.size x.1 := by
    intro x hx h
    rcases h with ⟨j, e, hj⟩ | h
    · exact vaD_apart hD hx (List.mem_of_getElem? hj) rfl
    · have := (vp_at hP (List.mem_append_left _ hx)).lt
      omega
  refine ⟨vp_of fun q hq => ?_, va_D.app ?_ (hD1.weaken (fun k q _ h => hF q.1 h)) (fun i j x y hx hy e => ?_)⟩
  · rcases List.mem_append.mp hq with h | h
    · have h1 := vp_at hP (List.mem_append_left wc h)
      exact h1.kept (hk q.1 h1.lt (hXa q h))
    · exact vp_at hP1 h
  · refine ⟨fun i j x y hi hj e => ?_, fun k q h => ?_⟩
    · exact hD.1 i j x y (by rw [List.getElem?_append_left (List.getElem?_eq_some_iff.mp hi).1]; exact hi) (by rw [List.getElem?_append_left (List.getElem?_eq_some_iff.mp hj).1]; exact hj) e
    · exact hD.2 k q (by rw [List.getElem?_append_left (List.getElem?_eq_some_iff.mp h).1]; exact h)
  · exact hXa x (List.mem_of_getElem? hx) (by rw [e]; exact hD1.2 j y hy)
def CBI (y : MethodName) (b : ByteArray) (n k : Nat) : Prop := Cond.instanceMethod y ∈ gwl ∧ Cond.initialized y.cls ∈ gwl ∧ Cond.code y b n none ∈ gwl ∧ y.name = "<init>" ∧ (y.cls ≠ "java/lang/invoke/MethodHandle" ∧ y.cls ≠ "java/lang/invoke/VarHandle" ∧ (parseMethodDescriptor y.desc).map (fun d => d.parameters.length) = some k)
/-- a constructor is called: its object is the last cell (behind X); a nest mate's private one, or another's -/
theorem i_call {S : Type} {w1 : S → va_W} (hr : va_Run p l e R s m args below meth c H locs CE SL mc ms (F0 m pc ls st0) rest (va_Qv (fun (_ : S) => True) (fun u t => Cout G kc (va_A wc H.size) (w1 u) t) (va_A wc H.size) As.toArray) (va_A wc H.size)) {X : va_W} (hP : VP G (X ++ wc) H) (hD : va_D A (X ++ wc)) (hS : va_S A s.heap H locs) (hA : ∀ q, s.heap.size ≤ q → A q)
    (kk : ∀ (u : S) (H1 : Heap) (locs1 : List Loc), VP G (X ++ w1 u) H1 → va_D A (X ++ w1 u) → va_S A s.heap H1 locs1 → W p l e R s m args below meth c H1 locs1 (CE + mc) (SL + ms) Q (F0 m (pc + 3) ls rest)) : W p l e R s m args below meth c H locs CE SL Q (F0 m pc ls st0) := by
  have hDw := vaD_tail hD
  have hFc : ∀ q, va_A wc H.size q → A q := by
    intro q h
    rcases h with ⟨k, e, h⟩ | h
    · exact hDw.2 k (q, e) h
    · exact hA q (Nat.le_trans hS.1 h)
  refine va_callv hr hS (fun q _ h => hFc q h) hFc (fun u t H1 locs1 ht hvm hw hB hz1 hk1 hS1 => ?_)
  obtain ⟨hP1, hK1, hD1⟩ := hB
  rw [ht] at hP1
  obtain ⟨hP2, hD2⟩ := i_join hP hD hFc hk1 hP1 hD1
  exact kk u H1 locs1 hP2 hD2 hS1
theorem i_callI {S : Type} {w1 : S → va_W} {X : va_W} (T : CallFix p m c cc nL s args gwl own) (hN : NW s) (hB : CBI y b n k) (hL : Cond.methodLink own idx y ∈ gwl) (hR : f + 1 ≤ R.frames ∧ 8 + (n + 11) + g ≤ R.locals) (hc : CE + mc ≤ R.cells ∧ SL + ms ≤ R.slots) (hM : CNv l G kc y b n (rmc f g mc ms) (.ref a :: As) wc w1 mc ms) (hK : VK G kc s) (hP : VP G (X ++ wc) H) (hD : va_D A (X ++ wc)) (hS : va_S A s.heap H locs) (hA : ∀ q, s.heap.size ≤ q → A q)
    (hn : As.length = k) (hst : st0 = As.reverse ++ .ref a :: rest) (hcat : (rest.map fun v => v.category).sum ≤ 8) (hls : ls.size = nL) (hdg : decode cc pc = .ok (.invokespecial idx, 3))
    (kk : ∀ (u : S) (H1 : Heap) (locs1 : List Loc), VP G (X ++ w1 u) H1 → va_D A (X ++ w1 u) → va_S A s.heap H1 locs1 → W p l e R s m args below meth c H1 locs1 (CE + mc) (SL + ms) Q (F0 m (pc + 3) ls rest)) : W p l e R s m args below meth c H locs CE SL Q (F0 m pc ls st0) := by
  obtain ⟨h1, h2, h3, h4, h5⟩ := hB
  have hts := T.2.2.2.2
  have hDc := vaD_tail hD
  have hPc : VP G wc H := vp_of fun q hq => vp_at hP (List.mem_append_right _ hq)
  exact i_call (As := .ref a :: As) (va_runI T (hM H.size) (cwI k hts (gw_wm h3) rfl rfl rfl (hts _ h2) (hts _ hL) (hts _ h1) h4 h5 hR) ⟨blind_s, fun U hU hW => ⟨rfl, pre_s hK hN hPc hDc hU hW⟩⟩ rfl hn hls hst (lv_room hcat) hdg hc) hP hD hS hA kk
theorem i_callN {S : Type} {w1 : S → va_W} {X : va_W} {host : String} (T : CallFix p m c cc nL s args gwl own) (hN : NW s) (hB : CBI y b n k) (hL : Cond.methodLinkNest own idx y host ∈ tables_1) (hR : f + 1 ≤ R.frames ∧ 8 + (n + 11) + g ≤ R.locals) (hc : CE + mc ≤ R.cells ∧ SL + ms ≤ R.slots) (hM : CNv l G kc y b n (rmc f g mc ms) (.ref a :: As) wc w1 mc ms) (hK : VK G kc s) (hP : VP G (X ++ wc) H) (hD : va_D A (X ++ wc)) (hS : va_S A s.heap H locs) (hA : ∀ q, s.heap.size ≤ q → A q)
    (hn : As.length = k) (hst : st0 = As.reverse ++ .ref a :: rest) (hcat : (rest.map fun v => v.category).sum ≤ 8) (hls : ls.size = nL) (hdg : decode cc pc = .ok (.invokespecial idx, 3))
    (kk : ∀ (u : S) (H1 : Heap) (locs1 : List Loc), VP G (X ++ w1 u) H1 → va_D A (X ++ w1 u) → va_S A s.heap H1 locs1 → W p l e R s m args below meth c H1 locs1 (CE + mc) (SL + ms) Q (F0 m (pc + 3) ls rest)) : W p l e R s m args below meth c H locs CE SL Q (F0 m pc ls st0) := by
  obtain ⟨h1, h2, h3, h4, h5⟩ := hB
  have hts := T.2.2.2.2
  have hDc := vaD_tail hD
  have hPc : VP G wc H := vp_of fun q hq => vp_at hP (List.mem_append_right _ hq)
  exact i_call (As := .ref a :: As) (va_runIN T (hM H.size) ⟨va_cnB k hts (gw_wm h3) rfl rfl rfl (hN _ hL rfl) (hts _ h2) h5 hR, h4, hts _ h1⟩ ⟨blind_s, fun U hU hW => ⟨rfl, pre_s hK hN hPc hDc hU hW⟩⟩ rfl hn hls hst (lv_room hcat) hdg hc) hP hD hS hA kk
theorem i_callZ {S : Type} {w1 : S → va_W} {X : va_W} {z0 : Nat} (T : CallFix p m c cc nL s args gwl own) (hN : NW s) (hZ : SZ z0 s s.heap) (hAz : ∀ q, A q → z0 ≤ q) (hz0 : z0 ≤ s.heap.size) (hB : CBI y b n k) (hL : Cond.methodLink own idx y ∈ gwl) (hR : f + 1 ≤ R.frames ∧ 8 + (n + 11) + g ≤ R.locals) (hc : CE + mc ≤ R.cells ∧ SL + ms ≤ R.slots) (hM : CNz l G kc z0 y b n (rmc f g mc ms) (.ref a :: As) wc w1 mc ms) (hK : VK G kc s) (hP : VP G (X ++ wc) H) (hD : va_D A (X ++ wc)) (hS : va_S A s.heap H locs) (hA : ∀ q, s.heap.size ≤ q → A q)
    (hn : As.length = k) (hst : st0 = As.reverse ++ .ref a :: rest) (hcat : (rest.map fun v => v.category).sum ≤ 8) (hls : ls.size = nL) (hdg : decode cc pc = .ok (.invokespecial idx, 3))
    (kk : ∀ (u : S) (H1 : Heap) (locs1 : List Loc), VP G (X ++ w1 u) H1 → va_D A (X ++ w1 u) → va_S A s.heap H1 locs1 → W p l e R s m args below meth c H1 locs1 (CE + mc) (SL + ms) Q (F0 m (pc + 3) ls rest)) : W p l e R s m args below meth c H locs CE SL Q (F0 m pc ls st0) := by
  obtain ⟨h1, h2, h3, h4, h5⟩ := hB
  have hts := T.2.2.2.2
  have hDc := vaD_tail hD
  have hPc : VP G wc H := vp_of fun q hq => vp_at hP (List.mem_append_right _ hq)
  exact i_call (As := .ref a :: As) (va_runI T (hM H.size) (cwI k hts (gw_wm h3) rfl rfl rfl (hts _ h2) (hts _ hL) (hts _ h1) h4 h5 hR) ⟨blind_z, fun U hU hW => ⟨rfl, pre_s hK hN hPc hDc hU hW, Nat.le_trans hz0 hS.1, hDc.weaken (fun k q _ h => hAz q.1 h), by rw [hU]; exact hZ.go (fun a h1 h2 => hS.2.1 a h1 (fun h => h2 (hAz a h))) hW.alike⟩⟩ rfl hn hls hst (lv_room hcat) hdg hc) hP hD hS hA kk
end ROWSI
