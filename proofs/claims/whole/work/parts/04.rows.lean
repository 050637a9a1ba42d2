/-! pure words: what the printed functions are made of -/
def rd {β : Type} (a : Nat → Int32) (n : Nat) (i : Int32) (k : Int32 → Option β) : Option β := if i < 0 ∨ n ≤ i.toNatClampNeg then none else k (a i.toNatClampNeg)
def rdl {β : Type} (a : Nat → Int64) (n : Nat) (i : Int32) (k : Int64 → Option β) : Option β := if i < 0 ∨ n ≤ i.toNatClampNeg then none else k (a i.toNatClampNeg)
def rdn {β : Type} (a : Nat → Nat) (n : Nat) (i : Int32) (k : Nat → Option β) : Option β := if i < 0 ∨ n ≤ i.toNatClampNeg then none else k (a i.toNatClampNeg)
def wr {β : Type} (a : Nat → Int32) (n : Nat) (i v : Int32) (k : (Nat → Int32) → Option β) : Option β := if i < 0 ∨ n ≤ i.toNatClampNeg then none else k (upd a i.toNatClampNeg v)
def wrz {β : Type} (a : Nat → Int32) (n : Nat) (i v : Int32) (k : (Nat → Int32) → Option β) : Option β := if i < 0 ∨ n ≤ i.toNatClampNeg then none else k (upd a i.toNatClampNeg (vp_nar .boolean v))
def wrl {β : Type} (a : Nat → Int64) (n : Nat) (i : Int32) (v : Int64) (k : (Nat → Int64) → Option β) : Option β := if i < 0 ∨ n ≤ i.toNatClampNeg then none else k (vp_updL a i.toNatClampNeg v)
def wrn {β : Type} (a : Nat → Nat) (n : Nat) (i : Int32) (v : Nat) (k : (Nat → Nat) → Option β) : Option β := if i < 0 ∨ n ≤ i.toNatClampNeg then none else k (va_up a i.toNatClampNeg v)
def dv {β : Type} (x y : Int32) (k : Int32 → Option β) : Option β := if y = 0 then none else k (x / y)
def rm {β : Type} (x y : Int32) (k : Int32 → Option β) : Option β := if y = 0 then none else k (x - x / y * y)
def rz {β : Type} (v : Int32) (k : Int32 → Option β) : Option β := if v = 0 ∨ v = 1 then k v else none
def lt25 {β : Type} (j n : Nat) (k : Option β) : Option β := if j < n then k else none
def jn {κ β : Type} (k : κ) (t : κ → Option β) : Option β := t k
def bd1 {α γ : Type} (o : Option α) (k : α → Option γ) : Option γ := match o with
  | some a => k a
  | none => none
def bd2 {α1 α2 γ : Type} (o : Option (α1 × α2)) (k : α1 → α2 → Option γ) : Option γ := match o with
  | some (a1, a2) => k a1 a2
  | none => none
def bd3 {α1 α2 α3 γ : Type} (o : Option (α1 × α2 × α3)) (k : α1 → α2 → α3 → Option γ) : Option γ := match o with
  | some (a1, a2, a3) => k a1 a2 a3
  | none => none
theorem bd1_e {α γ : Type} {o : Option α} {k : α → Option γ} {r : γ} (h : bd1 o k = some r) : ∃ a, o = some a ∧ k a = some r := by
  cases o with
  | none => cases h
  | some a => exact ⟨a, rfl, h⟩
theorem it_t {c : Prop} [Decidable c] {γ : Type} {a b : Option γ} {r : γ} (hc : c) (h : (if c then a else b) = some r) : a = some r := by rwa [if_pos hc] at h
theorem it_f {c : Prop} [Decidable c] {γ : Type} {a b : Option γ} {r : γ} (hc : ¬ c) (h : (if c then a else b) = some r) : b = some r := by rwa [if_neg hc] at h
theorem jn_w {κ β : Type} {k : κ} {t : κ → Option β} {r : β} {Z : Prop} (P : κ → Prop) (h : jn k t = some r) (hj : P k) (ht : ∀ k', P k' → t k' = some r → Z) : Z := ht k hj h
theorem lt25_e {β : Type} {j n : Nat} {k : Option β} {r : β} (h : lt25 j n k = some r) : j < n ∧ k = some r := by
  unfold lt25 at h
  by_cases c : j < n
  · rw [if_pos c] at h; exact ⟨c, h⟩
  · rw [if_neg c] at h; cases h
theorem rz_e {β : Type} {v : Int32} {k : Int32 → Option β} {r : β} (h : rz v k = some r) : narrow .boolean (.int v) = .int v ∧ k v = some r := by
  unfold rz at h
  by_cases c : v = 0 ∨ v = 1
  · rw [if_pos c] at h
    refine ⟨?_, h⟩
    rcases c with rfl | rfl <;> rfl
  · rw [if_neg c] at h; cases h
section ROWS
variable {p : Program} {l : Launch} {e : Env} {R : Room} {s : State} {m : MethodId} {args : Array Value} {below : List Frame} {meth : Method} {c : Code} {H : Heap} {locs : List Loc} {Q : State → Prop}
variable {cc : ByteArray} {pc nL : Nat} {ls : Array Slot} {rest : List Value} {G : va_G} {kc : Nat → ClassId} {A : Nat → Prop} {a : Nat} {ws : va_W} {β : Type} {r : β}
theorem r_iald (hexec : p.tables.exec = Jvm.exec) (hb : c.code = cc) (hK : VK G kc s) (hP : VP G ws H) (q0 : Nat) {n : Nat} {f : Nat → Int32} (ha : ws[q0]? = some (a, .inl (kc 0, n, .inl f))) {i : Int32} {k : Int32 → Option β} (hdg : decode cc pc = .ok (.iaload, 1)) (h : rd f n i k = some r)
    (kk : ∀ x : Int32, k x = some r → WW p l e R s m args below meth c Q H locs (pc + 1) ls (.int x :: rest)) : WW p l e R s m args below meth c Q H locs pc ls (.int i :: .ref a :: rest) := by
  unfold rd at h
  by_cases hi : i < 0 ∨ n ≤ i.toNatClampNeg
  · rw [if_pos hi] at h; cases h
  · rw [if_neg hi] at h
    exact va_iald hexec hb hK hP q0 0 ha rfl hi hdg (kk _ h)
theorem r_zald (hexec : p.tables.exec = Jvm.exec) (hb : c.code = cc) (hK : VK G kc s) (hP : VP G ws H) (q0 : Nat) {n : Nat} {f : Nat → Int32} (ha : ws[q0]? = some (a, .inl (kc 2, n, .inl f))) {i : Int32} {k : Int32 → Option β} (hdg : decode cc pc = .ok (.baload, 1)) (h : rd f n i k = some r)
    (kk : ∀ x : Int32, k x = some r → WW p l e R s m args below meth c Q H locs (pc + 1) ls (.int x :: rest)) : WW p l e R s m args below meth c Q H locs pc ls (.int i :: .ref a :: rest) := by
  unfold rd at h
  by_cases hi : i < 0 ∨ n ≤ i.toNatClampNeg
  · rw [if_pos hi] at h; cases h
  · rw [if_neg hi] at h
    exact va_zald hexec hb hK hP q0 2 ha rfl hi hdg (kk _ h)
theorem r_lald (hexec : p.tables.exec = Jvm.exec) (hb : c.code = cc) (hK : VK G kc s) (hP : VP G ws H) (q0 : Nat) {n : Nat} {f : Nat → Int64} (ha : ws[q0]? = some (a, .inl (kc 1, n, .inr (.inl f)))) {i : Int32} {k : Int64 → Option β} (hdg : decode cc pc = .ok (.laload, 1)) (h : rdl f n i k = some r)
    (kk : ∀ x : Int64, k x = some r → WW p l e R s m args below meth c Q H locs (pc + 1) ls (.long x :: rest)) : WW p l e R s m args below meth c Q H locs pc ls (.int i :: .ref a :: rest) := by
  unfold rdl at h
  by_cases hi : i < 0 ∨ n ≤ i.toNatClampNeg
  · rw [if_pos hi] at h; cases h
  · rw [if_neg hi] at h
    exact va_lald hexec hb hK hP q0 1 ha rfl hi hdg (kk _ h)
theorem r_iast (hexec : p.tables.exec = Jvm.exec) (hb : c.code = cc) (hK : VK G kc s) (hP : VP G ws H) (hD : va_D A ws) (hS : va_S A s.heap H locs) (q0 : Nat) {n : Nat} {f : Nat → Int32} (ha : ws[q0]? = some (a, .inl (kc 0, n, .inl f))) {i v : Int32} {k : (Nat → Int32) → Option β} (hdg : decode cc pc = .ok (.iastore, 1)) (h : wr f n i v k = some r)
    (kk : ∀ (g : Nat → Int32) (H1 : Heap) (locs1 : List Loc), VP G (ws.set q0 (a, .inl (kc 0, n, .inl g))) H1 → va_D A (ws.set q0 (a, .inl (kc 0, n, .inl g))) → va_S A s.heap H1 locs1 → k g = some r → WW p l e R s m args below meth c Q H1 locs1 (pc + 1) ls rest) : WW p l e R s m args below meth c Q H locs pc ls (.int v :: .int i :: .ref a :: rest) := by
  unfold wr at h
  by_cases hi : i < 0 ∨ n ≤ i.toNatClampNeg
  · rw [if_pos hi] at h; cases h
  · rw [if_neg hi] at h
    exact va_iast hexec hb hK hP hD hS q0 0 ha rfl hi hdg (fun H1 l1 h1 h2 h3 => kk _ H1 l1 h1 h2 h3 h)
theorem r_zast (hexec : p.tables.exec = Jvm.exec) (hb : c.code = cc) (hK : VK G kc s) (hP : VP G ws H) (hD : va_D A ws) (hS : va_S A s.heap H locs) (q0 : Nat) {n : Nat} {f : Nat → Int32} (ha : ws[q0]? = some (a, .inl (kc 2, n, .inl f))) {i v : Int32} {k : (Nat → Int32) → Option β} (hdg : decode cc pc = .ok (.bastore, 1)) (h : wrz f n i v k = some r)
    (kk : ∀ (g : Nat → Int32) (H1 : Heap) (locs1 : List Loc), VP G (ws.set q0 (a, .inl (kc 2, n, .inl g))) H1 → va_D A (ws.set q0 (a, .inl (kc 2, n, .inl g))) → va_S A s.heap H1 locs1 → k g = some r → WW p l e R s m args below meth c Q H1 locs1 (pc + 1) ls rest) : WW p l e R s m args below meth c Q H locs pc ls (.int v :: .int i :: .ref a :: rest) := by
  unfold wrz at h
  by_cases hi : i < 0 ∨ n ≤ i.toNatClampNeg
  · rw [if_pos hi] at h; cases h
  · rw [if_neg hi] at h
    exact va_zast hexec hb hK hP hD hS q0 2 ha rfl hi hdg (fun H1 l1 h1 h2 h3 => kk _ H1 l1 h1 h2 h3 h)
theorem r_last (hexec : p.tables.exec = Jvm.exec) (hb : c.code = cc) (hK : VK G kc s) (hP : VP G ws H) (hD : va_D A ws) (hS : va_S A s.heap H locs) (q0 : Nat) {n : Nat} {f : Nat → Int64} (ha : ws[q0]? = some (a, .inl (kc 1, n, .inr (.inl f)))) {i : Int32} {v : Int64} {k : (Nat → Int64) → Option β} (hdg : decode cc pc = .ok (.lastore, 1)) (h : wrl f n i v k = some r)
    (kk : ∀ (g : Nat → Int64) (H1 : Heap) (locs1 : List Loc), VP G (ws.set q0 (a, .inl (kc 1, n, .inr (.inl g)))) H1 → va_D A (ws.set q0 (a, .inl (kc 1, n, .inr (.inl g)))) → va_S A s.heap H1 locs1 → k g = some r → WW p l e R s m args below meth c Q H1 locs1 (pc + 1) ls rest) : WW p l e R s m args below meth c Q H locs pc ls (.long v :: .int i :: .ref a :: rest) := by
  unfold wrl at h
  by_cases hi : i < 0 ∨ n ≤ i.toNatClampNeg
  · rw [if_pos hi] at h; cases h
  · rw [if_neg hi] at h
    exact va_last hexec hb hK hP hD hS q0 1 ha rfl hi hdg (fun H1 l1 h1 h2 h3 => kk _ H1 l1 h1 h2 h3 h)
theorem r_idiv (hexec : p.tables.exec = Jvm.exec) (hb : c.code = cc) {x y : Int32} {k : Int32 → Option β} (hdg : decode cc pc = .ok (.idiv, 1)) (h : dv x y k = some r) (kk : ∀ z, k z = some r → WW p l e R s m args below meth c Q H locs (pc + 1) ls (.int z :: rest)) : WW p l e R s m args below meth c Q H locs pc ls (.int y :: .int x :: rest) := by
  unfold dv at h
  by_cases hi : y = 0
  · rw [if_pos hi] at h; cases h
  · rw [if_neg hi] at h
    exact lv_idiv hexec hb hdg hi (kk _ h)
theorem r_irem (hexec : p.tables.exec = Jvm.exec) (hb : c.code = cc) {x y : Int32} {k : Int32 → Option β} (hdg : decode cc pc = .ok (.irem, 1)) (h : rm x y k = some r) (kk : ∀ z, k z = some r → WW p l e R s m args below meth c Q H locs (pc + 1) ls (.int z :: rest)) : WW p l e R s m args below meth c Q H locs pc ls (.int y :: .int x :: rest) := by
  unfold rm at h
  by_cases hi : y = 0
  · rw [if_pos hi] at h; cases h
  · rw [if_neg hi] at h
    exact lv_irem hexec hb hdg hi (kk _ h)
/-! fields -/
def GF (own : String) (idx ci k : Nat) : Prop := ∃ (C : String) (T : u_T) (N : Nat), vwCl[ci]? = some (C, T, N) ∧ k < N ∧ (∀ w ∈ u_ws C T N, w ∈ gwl) ∧ Cond.fieldLink own idx (T k).1 (T k).2.1 (T k).2.2.1 ∈ gwl
theorem GF.mk {own C : String} {idx ci k N : Nat} {T : u_T} (h1 : vwCl[ci]? = some (C, T, N)) (h2 : k < N) (h3 : ∀ w ∈ u_ws C T N, w ∈ gwl) (h4 : Cond.fieldLink own idx (T k).1 (T k).2.1 (T k).2.2.1 ∈ gwl) : GF own idx ci k := ⟨C, T, N, h1, h2, h3, h4⟩
def PF (own : String) (idx ci k : Nat) : Prop := ∃ (C : String) (T : u_T) (N : Nat) (ty : Nat → FieldType), vwCl[ci]? = some (C, T, N) ∧ k < N ∧ (∀ w ∈ u_ws C T N, w ∈ gwl) ∧ Cond.fieldLink own idx (T k).1 (T k).2.1 (T k).2.2.1 ∈ gwl ∧ (∀ k, k < N → parseFieldDescriptor (T k).2.2.1 = some (ty k)) ∧ (∀ a, a < N → ∀ b, b < N → a ≠ b → (T a).2.1 ≠ (T b).2.1) ∧ (T k).2.2.2 = false ∧ parseFieldDescriptor (T k).2.2.1 = some .int
theorem r_get {own : String} {idx ci k : Nat} (S : CallFix p m c cc nL s args gwl own) (hF : GF own idx ci k) (hK : VK G kc s) (hP : VP G ws H) (q0 : Nat) {fs : List Value} {v : Value} (he : ws[q0]? = some (a, .inr (ci, fs))) (hv : fs[k]? = some v) (hdg : decode cc pc = .ok (.getfield idx, 3))
    (kk : WW p l e R s m args below meth c Q H locs (pc + 3) ls (v :: rest)) : WW p l e R s m args below meth c Q H locs pc ls (.ref a :: rest) := by
  obtain ⟨C, T, N, h1, h2, h3, h4⟩ := hF
  obtain ⟨hx, hb, -, hown, hts⟩ := S
  exact va_get hx hb hts h3 hown hK hP q0 he h1 k h2 (hts _ h4) (fun _ h => h) hv hdg kk
theorem r_put {own : String} {idx ci k : Nat} (S : CallFix p m c cc nL s args gwl own) (hF : PF own idx ci k) (hK : VK G kc s) (hP : VP G ws H) (hD : va_D A ws) (hS : va_S A s.heap H locs) (q0 : Nat) {fs : List Value} {v : Int32} (he : ws[q0]? = some (a, .inr (ci, fs))) (hl : k < fs.length) (hdg : decode cc pc = .ok (.putfield idx, 3))
    (kk : ∀ (H1 : Heap) (locs1 : List Loc), VP G (ws.set q0 (a, .inr (ci, fs.set k (.int v)))) H1 → va_D A (ws.set q0 (a, .inr (ci, fs.set k (.int v)))) → va_S A s.heap H1 locs1 → WW p l e R s m args below meth c Q H1 locs1 (pc + 3) ls rest) : WW p l e R s m args below meth c Q H locs pc ls (.int v :: .ref a :: rest) := by
  obtain ⟨C, T, N, ty, h1, h2, h3, h4, h5, h6, h7, h8⟩ := hF
  obtain ⟨hx, hb, -, hown, hts⟩ := S
  exact va_put hx hb hts h3 ty h5 h6 hown hK hP hD hS q0 he h1 k h2 (hts _ h4) (fun _ h => h) h7 h8 rfl rfl hl hdg kk
/-! returns -/
theorem ret_i {ty : FieldType} {w1 : va_W} {v : Int32} (hexec : p.tables.exec = Jvm.exec) (hb : c.code = cc) (hr : meth.sig.returnType = some ty) (hn : narrow ty (.int v) = .int v) (hQ : Q = EQi G kc below s args A w1 v) (hlocks : meth.locks = false) (hK : VK G kc s) (hP : VP G w1 H) (hD : va_D A w1) (hS : va_S A s.heap H locs) (hdg : decode cc pc = .ok (.ireturn, 1)) : WW p l e R s m args below meth c Q H locs pc ls [.int v] := by
  subst hQ
  exact W.zret hexec hb hr hn (fun t ht hW => ⟨⟨v, (), rfl, rfl, by rw [ht]; exact hP, va_K.moved hW.alike hK, hD⟩, hS.F ht⟩) hS.2.2 hdg hlocks
theorem ret_v {w1 : va_W} (hexec : p.tables.exec = Jvm.exec) (hb : c.code = cc) (hr : meth.sig.returnType = none) (hQ : Q = EQv G kc below s args A w1) (hlocks : meth.locks = false) (hK : VK G kc s) (hP : VP G w1 H) (hD : va_D A w1) (hS : va_S A s.heap H locs) (hdg : decode cc pc = .ok (.return_, 1)) : WW p l e R s m args below meth c Q H locs pc ls [] := by
  subst hQ
  exact W.vret hexec hb hr (fun t ht hW => ⟨⟨(), rfl, trivial, by rw [ht]; exact hP, va_K.moved hW.alike hK, hD⟩, hS.F ht⟩) hS.2.2 hdg hlocks
end ROWS
/-! calls -/
def CBV (y : MethodName) (b : ByteArray) (n : Nat) (r : Option FieldType) (k : Nat) : Prop := Cond.instanceMethod y ∈ gwl ∧ Cond.selects y.cls y y ∈ gwl ∧ Cond.initialized y.cls ∈ gwl ∧ Cond.code y b n r ∈ gwl ∧ (y.cls ≠ "java/lang/invoke/MethodHandle" ∧ y.cls ≠ "java/lang/invoke/VarHandle" ∧ (parseMethodDescriptor y.desc).map (fun d => d.parameters.length) = some k)
def CBS (y : MethodName) (b : ByteArray) (n : Nat) (r : Option FieldType) (k : Nat) : Prop := Cond.static y ∈ gwl ∧ Cond.initialized y.cls ∈ gwl ∧ Cond.code y b n r ∈ gwl ∧ (y.cls ≠ "java/lang/invoke/MethodHandle" ∧ y.cls ≠ "java/lang/invoke/VarHandle" ∧ (parseMethodDescriptor y.desc).map (fun d => d.parameters.length) = some k)
section CALLS
variable {p : Program} {l : Launch} {e : Env} {R : Room} {s : State} {m : MethodId} {args : Array Value} {below : List Frame} {meth : Method} {c : Code} {H : Heap} {locs : List Loc} {Q : State → Prop}
variable {cc : ByteArray} {pc nL : Nat} {ls : Array Slot} {rest st0 : List Value} {G : va_G} {kc : Nat → ClassId} {A : Nat → Prop} {a : Nat} {ws wc w1 : va_W}
variable {y : MethodName} {b : ByteArray} {n idx k f g : Nat} {r : Option FieldType} {own : String} {As : List Value} {x : Int32}
theorem pre_s {U : State} (hK : VK G kc s) (hN : NW s) (hPc : VP G wc H) (hDc : va_D A wc) (hU : U.heap = H) (hW : s.WarmedH U.vm) : Cin G kc wc H.size U := ⟨by rw [hU], by rw [hU]; exact hPc, va_K.moved hW.alike hK, hDc.weaken (fun _ _ _ _ => trivial), hN.warm hW⟩
theorem blind_s {av : List Value} {sz : Nat} : FrameBlind (va_Pc av (Cin G kc wc sz)) := by
  intro a U g mk q
  obtain ⟨q0, q1, qP, qK, qD, qN⟩ := q
  exact ⟨q0, q1, qP, va_K.moved (u := U) (U := U.calling g mk a) (Vm.Alike.refl U.vm) qK, qD, qN.call⟩
/-- the callee's cells are the caller's at the places is; they come back changed in place -/
theorem go_i (hr : va_Run p l e R s m args below meth c H locs 0 0 0 0 (F0 m pc ls st0) rest (Qi G kc (va_A wc H.size) w1 x As.toArray) (va_A wc H.size)) (hP : VP G ws H) (hD : va_D A ws) (hS : va_S A s.heap H locs) (hA : ∀ q, s.heap.size ≤ q → A q) (is : List Nat) (hC : is.map (fun i => ws[i]?) = wc.map some) (ha : w1.map Prod.fst = wc.map Prod.fst)
    (kk : ∀ (H1 : Heap) (locs1 : List Loc), VP G (wset ws is w1) H1 → va_D A (wset ws is w1) → va_S A s.heap H1 locs1 → WW p l e R s m args below meth c Q H1 locs1 (pc + 3) ls (.int x :: rest)) : WW p l e R s m args below meth c Q H locs pc ls st0 := by
  have hFc := va_free (wc := wc) hD hS hA is hC
  refine va_calli hr hS (fun q _ h => hFc q h) hFc (fun r u t H1 locs1 ht hvm hw hB hz1 hk1 hS1 => ?_)
  obtain ⟨hP1, hK1, hD1⟩ := hB
  rw [ht] at hP1
  subst hw
  obtain ⟨hP2, hD2⟩ := in_place hP hD is hC ha hk1 hP1
  exact kk H1 locs1 hP2 hD2 hS1
theorem go_v (hr : va_Run p l e R s m args below meth c H locs 0 0 0 0 (F0 m pc ls st0) rest (Qv G kc (va_A wc H.size) w1 As.toArray) (va_A wc H.size)) (hP : VP G ws H) (hD : va_D A ws) (hS : va_S A s.heap H locs) (hA : ∀ q, s.heap.size ≤ q → A q) (is : List Nat) (hC : is.map (fun i => ws[i]?) = wc.map some) (ha : w1.map Prod.fst = wc.map Prod.fst)
    (kk : ∀ (H1 : Heap) (locs1 : List Loc), VP G (wset ws is w1) H1 → va_D A (wset ws is w1) → va_S A s.heap H1 locs1 → WW p l e R s m args below meth c Q H1 locs1 (pc + 3) ls rest) : WW p l e R s m args below meth c Q H locs pc ls st0 := by
  have hFc := va_free (wc := wc) hD hS hA is hC
  refine va_callv hr hS (fun q _ h => hFc q h) hFc (fun u t H1 locs1 ht hvm hw hB hz1 hk1 hS1 => ?_)
  obtain ⟨hP1, hK1, hD1⟩ := hB
  rw [ht] at hP1
  obtain ⟨hP2, hD2⟩ := in_place hP hD is hC ha hk1 hP1
  exact kk H1 locs1 hP2 hD2 hS1
/-- the callee's world is the caller's -/
theorem gs_i (hr : va_Run p l e R s m args below meth c H locs 0 0 0 0 (F0 m pc ls st0) rest (Qi G kc (va_A ws H.size) w1 x As.toArray) (va_A ws H.size)) (hD : va_D A ws) (hS : va_S A s.heap H locs) (hA : ∀ q, s.heap.size ≤ q → A q)
    (kk : ∀ (H1 : Heap) (locs1 : List Loc), VP G w1 H1 → va_D A w1 → va_S A s.heap H1 locs1 → WW p l e R s m args below meth c Q H1 locs1 (pc + 3) ls (.int x :: rest)) : WW p l e R s m args below meth c Q H locs pc ls st0 := by
  have hFc : ∀ q, va_A ws H.size q → A q := by
    intro q h
    rcases h with ⟨k, e, h⟩ | h
    · exact hD.2 k (q, e) h
    · exact hA q (Nat.le_trans hS.1 h)
  refine va_calli hr hS (fun q _ h => hFc q h) hFc (fun r u t H1 locs1 ht hvm hw hB hz1 hk1 hS1 => ?_)
  obtain ⟨hP1, hK1, hD1⟩ := hB
  rw [ht] at hP1
  subst hw
  exact kk H1 locs1 hP1 (hD1.weaken (fun k q _ h => hFc q.1 h)) hS1
theorem gs_v (hr : va_Run p l e R s m args below meth c H locs 0 0 0 0 (F0 m pc ls st0) rest (Qv G kc (va_A ws H.size) w1 As.toArray) (va_A ws H.size)) (hD : va_D A ws) (hS : va_S A s.heap H locs) (hA : ∀ q, s.heap.size ≤ q → A q)
    (kk : ∀ (H1 : Heap) (locs1 : List Loc), VP G w1 H1 → va_D A w1 → va_S A s.heap H1 locs1 → WW p l e R s m args below meth c Q H1 locs1 (pc + 3) ls rest) : WW p l e R s m args below meth c Q H locs pc ls st0 := by
  have hFc : ∀ q, va_A ws H.size q → A q := by
    intro q h
    rcases h with ⟨k, e, h⟩ | h
    · exact hD.2 k (q, e) h
    · exact hA q (Nat.le_trans hS.1 h)
  refine va_callv hr hS (fun q _ h => hFc q h) hFc (fun u t H1 locs1 ht hvm hw hB hz1 hk1 hS1 => ?_)
  obtain ⟨hP1, hK1, hD1⟩ := hB
  rw [ht] at hP1
  exact kk H1 locs1 hP1 (hD1.weaken (fun k q _ h => hFc q.1 h)) hS1
theorem w_V (S : CallFix p m c cc nL s args gwl own) (hB : CBV y b n r k) (hL : Cond.methodLink own idx y ∈ gwl) (hR : f + 1 ≤ R.frames ∧ 8 + (n + 11) + g ≤ R.locals) : CallW R s args own y.cls idx y b n r (wm y b n r) (rmq f g) 0 0 k := by
  obtain ⟨h1, h2, h3, h4, h5⟩ := hB
  obtain ⟨-, -, -, -, hts⟩ := S
  refine cwV k hts (gw_in ?_) rfl rfl rfl ⟨rfl, h5⟩ hR
  intro w hw
  rcases List.mem_append.mp hw with hw | hw
  · simp only [List.mem_cons, List.not_mem_nil, or_false] at hw
    rcases hw with rfl | rfl | rfl | rfl
    · exact hL
    · exact h1
    · exact h2
    · exact h3
  · exact (gw_wm h4 w hw).1
theorem w_S (S : CallFix p m c cc nL s args gwl own) (hB : CBS y b n r k) (hL : Cond.methodLink own idx y ∈ gwl) (hR : f + 1 ≤ R.frames ∧ 8 + (n + 11) + g ≤ R.locals) : CallB R s args own idx y b n r (wm y b n r) (rmq f g) 0 0 k ∧ (Cond.static y).before args s = true := by
  obtain ⟨h1, h3, h4, h5⟩ := hB
  obtain ⟨-, -, -, -, hts⟩ := S
  exact ⟨callB_of k hts (gw_wm h4) rfl rfl rfl (hts _ h3) (hts _ hL) h5 hR, hts _ h1⟩
theorem w_N {host : String} (S : CallFix p m c cc nL s args gwl own) (hN : NW s) (hB : CBS y b n r k) (hL : Cond.methodLinkNest own idx y host ∈ tables_1) (hR : f + 1 ≤ R.frames ∧ 8 + (n + 11) + g ≤ R.locals) : va_CN R s args own idx y host b n r (wm y b n r) (rmq f g) 0 0 k ∧ (Cond.static y).before args s = true ∧ True := by
  obtain ⟨h1, h3, h4, h5⟩ := hB
  obtain ⟨-, -, -, -, hts⟩ := S
  exact ⟨va_cnB k hts (gw_wm h4) rfl rfl rfl (hN _ hL rfl) (hts _ h3) h5 hR, hts _ h1, trivial⟩
theorem recv {q : vw_C} {ci q0 : Nat} {fs : List Value} (hK : VK G kc s) (hP : VP G ws H) (hc : vwCl[ci]? = some q) (hy : q.1 = y.cls) (he : ws[q0]? = some (a, .inr (ci, fs))) : ∃ cell : Cell, H[a]? = some cell ∧ cell.vm.isStatics = false ∧ s.vm.findClass y.cls = some cell.cls := by
  have h := va_recv hK hP hc he
  rwa [hy] at h
/-- a virtual call over the caller's whole world -/
theorem cs_Vi (S : CallFix p m c cc nL s args gwl own) (hN : NW s) (hB : CBV y b n r k) (hL : Cond.methodLink own idx y ∈ gwl) (hR : f + 1 ≤ R.frames ∧ 8 + (n + 11) + g ≤ R.locals) (hM : CTi l G kc y b n r (rmq f g) (.ref a :: As) ws w1 x) (hK : VK G kc s) (hP : VP G ws H) (hD : va_D A ws) (hS : va_S A s.heap H locs) (hA : ∀ q, s.heap.size ≤ q → A q)
    {q : vw_C} {ci : Nat} {fs : List Value} (q0 : Nat) (hc : vwCl[ci]? = some q) (hy : q.1 = y.cls) (he : ws[q0]? = some (a, .inr (ci, fs))) (hn : As.length = k) (hst : st0 = As.reverse ++ .ref a :: rest) (hcat : (rest.map fun v => v.category).sum ≤ 8) (hls : ls.size = nL) (hdg : decode cc pc = .ok (.invokevirtual idx, 3))
    (kk : ∀ (H1 : Heap) (locs1 : List Loc), VP G w1 H1 → va_D A w1 → va_S A s.heap H1 locs1 → WW p l e R s m args below meth c Q H1 locs1 (pc + 3) ls (.int x :: rest)) : WW p l e R s m args below meth c Q H locs pc ls st0 :=
  gs_i (As := .ref a :: As) (va_runV S (hM H.size) (w_V S hB hL hR) ⟨blind_s, recv hK hP hc hy he, fun U hU hW => ⟨rfl, pre_s hK hN hP hD hU hW⟩⟩ rfl hn hls hst (lv_room hcat) hdg ⟨Nat.zero_le _, Nat.zero_le _⟩) hD hS hA kk
theorem cs_Vv (S : CallFix p m c cc nL s args gwl own) (hN : NW s) (hB : CBV y b n r k) (hL : Cond.methodLink own idx y ∈ gwl) (hR : f + 1 ≤ R.frames ∧ 8 + (n + 11) + g ≤ R.locals) (hM : CTv l G kc y b n r (rmq f g) (.ref a :: As) ws w1) (hK : VK G kc s) (hP : VP G ws H) (hD : va_D A ws) (hS : va_S A s.heap H locs) (hA : ∀ q, s.heap.size ≤ q → A q)
    {q : vw_C} {ci : Nat} {fs : List Value} (q0 : Nat) (hc : vwCl[ci]? = some q) (hy : q.1 = y.cls) (he : ws[q0]? = some (a, .inr (ci, fs))) (hn : As.length = k) (hst : st0 = As.reverse ++ .ref a :: rest) (hcat : (rest.map fun v => v.category).sum ≤ 8) (hls : ls.size = nL) (hdg : decode cc pc = .ok (.invokevirtual idx, 3))
    (kk : ∀ (H1 : Heap) (locs1 : List Loc), VP G w1 H1 → va_D A w1 → va_S A s.heap H1 locs1 → WW p l e R s m args below meth c Q H1 locs1 (pc + 3) ls rest) : WW p l e R s m args below meth c Q H locs pc ls st0 :=
  gs_v (As := .ref a :: As) (va_runV S (hM H.size) (w_V S hB hL hR) ⟨blind_s, recv hK hP hc hy he, fun U hU hW => ⟨rfl, pre_s hK hN hP hD hU hW⟩⟩ rfl hn hls hst (lv_room hcat) hdg ⟨Nat.zero_le _, Nat.zero_le _⟩) hD hS hA kk
/-- a virtual call over some of the caller's cells -/
theorem cp_Vi (is : List Nat) (S : CallFix p m c cc nL s args gwl own) (hN : NW s) (hB : CBV y b n r k) (hL : Cond.methodLink own idx y ∈ gwl) (hR : f + 1 ≤ R.frames ∧ 8 + (n + 11) + g ≤ R.locals) (hM : CTi l G kc y b n r (rmq f g) (.ref a :: As) wc w1 x) (hK : VK G kc s) (hP : VP G ws H) (hD : va_D A ws) (hS : va_S A s.heap H locs) (hA : ∀ q, s.heap.size ≤ q → A q)
    (hC : is.map (fun i => ws[i]?) = wc.map some) (hnd : va_nd is = true) (ha : w1.map Prod.fst = wc.map Prod.fst)
    {q : vw_C} {ci : Nat} {fs : List Value} (q0 : Nat) (hc : vwCl[ci]? = some q) (hy : q.1 = y.cls) (he : ws[q0]? = some (a, .inr (ci, fs))) (hn : As.length = k) (hst : st0 = As.reverse ++ .ref a :: rest) (hcat : (rest.map fun v => v.category).sum ≤ 8) (hls : ls.size = nL) (hdg : decode cc pc = .ok (.invokevirtual idx, 3))
    (kk : ∀ (H1 : Heap) (locs1 : List Loc), VP G (wset ws is w1) H1 → va_D A (wset ws is w1) → va_S A s.heap H1 locs1 → WW p l e R s m args below meth c Q H1 locs1 (pc + 3) ls (.int x :: rest)) : WW p l e R s m args below meth c Q H locs pc ls st0 := by
  have hDc := hD.sub is hnd hC
  have hPc : VP G wc H := va_P.sub hP is (by have h1 := congrArg (List.filterMap id) hC; rw [List.filterMap_map, List.filterMap_map] at h1; simpa using h1)
  exact go_i (As := .ref a :: As) (va_runV S (hM H.size) (w_V S hB hL hR) ⟨blind_s, recv hK hP hc hy he, fun U hU hW => ⟨rfl, pre_s hK hN hPc hDc hU hW⟩⟩ rfl hn hls hst (lv_room hcat) hdg ⟨Nat.zero_le _, Nat.zero_le _⟩) hP hD hS hA is hC ha kk
theorem cp_Vv (is : List Nat) (S : CallFix p m c cc nL s args gwl own) (hN : NW s) (hB : CBV y b n r k) (hL : Cond.methodLink own idx y ∈ gwl) (hR : f + 1 ≤ R.frames ∧ 8 + (n + 11) + g ≤ R.locals) (hM : CTv l G kc y b n r (rmq f g) (.ref a :: As) wc w1) (hK : VK G kc s) (hP : VP G ws H) (hD : va_D A ws) (hS : va_S A s.heap H locs) (hA : ∀ q, s.heap.size ≤ q → A q)
    (hC : is.map (fun i => ws[i]?) = wc.map some) (hnd : va_nd is = true) (ha : w1.map Prod.fst = wc.map Prod.fst)
    {q : vw_C} {ci : Nat} {fs : List Value} (q0 : Nat) (hc : vwCl[ci]? = some q) (hy : q.1 = y.cls) (he : ws[q0]? = some (a, .inr (ci, fs))) (hn : As.length = k) (hst : st0 = As.reverse ++ .ref a :: rest) (hcat : (rest.map fun v => v.category).sum ≤ 8) (hls : ls.size = nL) (hdg : decode cc pc = .ok (.invokevirtual idx, 3))
    (kk : ∀ (H1 : Heap) (locs1 : List Loc), VP G (wset ws is w1) H1 → va_D A (wset ws is w1) → va_S A s.heap H1 locs1 → WW p l e R s m args below meth c Q H1 locs1 (pc + 3) ls rest) : WW p l e R s m args below meth c Q H locs pc ls st0 := by
  have hDc := hD.sub is hnd hC
  have hPc : VP G wc H := va_P.sub hP is (by have h1 := congrArg (List.filterMap id) hC; rw [List.filterMap_map, List.filterMap_map] at h1; simpa using h1)
  exact go_v (As := .ref a :: As) (va_runV S (hM H.size) (w_V S hB hL hR) ⟨blind_s, recv hK hP hc hy he, fun U hU hW => ⟨rfl, pre_s hK hN hPc hDc hU hW⟩⟩ rfl hn hls hst (lv_room hcat) hdg ⟨Nat.zero_le _, Nat.zero_le _⟩) hP hD hS hA is hC ha kk
/-- a static call over some of the caller's cells (or none) -/
theorem cp_Si (is : List Nat) (S : CallFix p m c cc nL s args gwl own) (hN : NW s) (hB : CBS y b n r k) (hL : Cond.methodLink own idx y ∈ gwl) (hR : f + 1 ≤ R.frames ∧ 8 + (n + 11) + g ≤ R.locals) (hM : CTi l G kc y b n r (rmq f g) As wc w1 x) (hK : VK G kc s) (hP : VP G ws H) (hD : va_D A ws) (hS : va_S A s.heap H locs) (hA : ∀ q, s.heap.size ≤ q → A q)
    (hC : is.map (fun i => ws[i]?) = wc.map some) (hnd : va_nd is = true) (ha : w1.map Prod.fst = wc.map Prod.fst)
    (hn : As.length = k) (hst : st0 = As.reverse ++ rest) (hcat : (rest.map fun v => v.category).sum ≤ 8) (hls : ls.size = nL) (hdg : decode cc pc = .ok (.invokestatic idx, 3))
    (kk : ∀ (H1 : Heap) (locs1 : List Loc), VP G (wset ws is w1) H1 → va_D A (wset ws is w1) → va_S A s.heap H1 locs1 → WW p l e R s m args below meth c Q H1 locs1 (pc + 3) ls (.int x :: rest)) : WW p l e R s m args below meth c Q H locs pc ls st0 := by
  have hDc := hD.sub is hnd hC
  have hPc : VP G wc H := va_P.sub hP is (by have h1 := congrArg (List.filterMap id) hC; rw [List.filterMap_map, List.filterMap_map] at h1; simpa using h1)
  exact go_i (As := As) (va_runS S (hM H.size) (w_S S hB hL hR) ⟨blind_s, fun U hU hW => ⟨rfl, pre_s hK hN hPc hDc hU hW⟩⟩ rfl hn hls hst (lv_room hcat) hdg ⟨Nat.zero_le _, Nat.zero_le _⟩) hP hD hS hA is hC ha kk
theorem cp_Sv (is : List Nat) (S : CallFix p m c cc nL s args gwl own) (hN : NW s) (hB : CBS y b n r k) (hL : Cond.methodLink own idx y ∈ gwl) (hR : f + 1 ≤ R.frames ∧ 8 + (n + 11) + g ≤ R.locals) (hM : CTv l G kc y b n r (rmq f g) As wc w1) (hK : VK G kc s) (hP : VP G ws H) (hD : va_D A ws) (hS : va_S A s.heap H locs) (hA : ∀ q, s.heap.size ≤ q → A q)
    (hC : is.map (fun i => ws[i]?) = wc.map some) (hnd : va_nd is = true) (ha : w1.map Prod.fst = wc.map Prod.fst)
    (hn : As.length = k) (hst : st0 = As.reverse ++ rest) (hcat : (rest.map fun v => v.category).sum ≤ 8) (hls : ls.size = nL) (hdg : decode cc pc = .ok (.invokestatic idx, 3))
    (kk : ∀ (H1 : Heap) (locs1 : List Loc), VP G (wset ws is w1) H1 → va_D A (wset ws is w1) → va_S A s.heap H1 locs1 → WW p l e R s m args below meth c Q H1 locs1 (pc + 3) ls rest) : WW p l e R s m args below meth c Q H locs pc ls st0 := by
  have hDc := hD.sub is hnd hC
  have hPc : VP G wc H := va_P.sub hP is (by have h1 := congrArg (List.filterMap id) hC; rw [List.filterMap_map, List.filterMap_map] at h1; simpa using h1)
  exact go_v (As := As) (va_runS S (hM H.size) (w_S S hB hL hR) ⟨blind_s, fun U hU hW => ⟨rfl, pre_s hK hN hPc hDc hU hW⟩⟩ rfl hn hls hst (lv_room hcat) hdg ⟨Nat.zero_le _, Nat.zero_le _⟩) hP hD hS hA is hC ha kk
/-- a static method of a nest mate, over no cell -/
theorem cn_Si {host : String} (S : CallFix p m c cc nL s args gwl own) (hN : NW s) (hB : CBS y b n r k) (hL : Cond.methodLinkNest own idx y host ∈ tables_1) (hR : f + 1 ≤ R.frames ∧ 8 + (n + 11) + g ≤ R.locals) (hM : CTi l G kc y b n r (rmq f g) As [] [] x) (hK : VK G kc s) (hP : VP G ws H) (hD : va_D A ws) (hS : va_S A s.heap H locs) (hA : ∀ q, s.heap.size ≤ q → A q)
    (hn : As.length = k) (hst : st0 = As.reverse ++ rest) (hcat : (rest.map fun v => v.category).sum ≤ 8) (hls : ls.size = nL) (hdg : decode cc pc = .ok (.invokestatic idx, 3))
    (kk : ∀ (H1 : Heap) (locs1 : List Loc), VP G ws H1 → va_D A ws → va_S A s.heap H1 locs1 → WW p l e R s m args below meth c Q H1 locs1 (pc + 3) ls (.int x :: rest)) : WW p l e R s m args below meth c Q H locs pc ls st0 := by
  have hDc := hD.sub (ws' := []) [] rfl rfl
  have hPc : VP G [] H := va_P.sub hP [] rfl
  exact go_i (As := As) (va_runSN S (hM H.size) (w_N S hN hB hL hR) ⟨blind_s, fun U hU hW => ⟨rfl, pre_s hK hN hPc hDc hU hW⟩⟩ rfl hn hls hst (lv_room hcat) hdg ⟨Nat.zero_le _, Nat.zero_le _⟩) hP hD hS hA [] rfl rfl kk
end CALLS
