/-! what the tables say beside the words of the contracts; worlds in another order; rows of rows are made -/
def AX (kc : Nat → ClassId) (U : State) : Prop := va_AO RX0 U ∧ ∃ kA : Class, U.vm.classes[kc 4]? = some kA ∧ kA.kind = .array (kc 0) (.array .int)
theorem AX.moved {kc : Nat → ClassId} {u U : State} (hvm : u.vm.Alike U.vm) (h : AX kc u) : AX kc U := by
  obtain ⟨h0, kA, h1, h2⟩ := h
  obtain ⟨k', hk', he⟩ := hvm.2.2 _ _ h1
  exact ⟨h0.moved hvm, k', hk', by rw [he]; exact h2⟩
def Ciny (G : va_G) (kc : Nat → ClassId) (z0 : Nat) (w0 : va_W) (sz : Nat) : State → Prop := fun U => Cinz G kc z0 w0 sz U ∧ AX kc U
def CNy (l : Launch) (G : va_G) (kc : Nat → ClassId) (z0 : Nat) (y : MethodName) (b : ByteArray) (n : Nat) (rm : Room) (av : List Value) (w0 : va_W) {S : Type} (w1 : S → va_W) (mc ms : Nat) : Prop := ∀ sz, Met l y (wm y b n none) rm (va_Pc av (Ciny G kc z0 w0 sz)) (va_Qv (fun (_ : S) => True) (fun u t => Cout G kc (va_A w0 sz) (w1 u) t) (va_A w0 sz)) mc ms (va_A w0 sz)
theorem CNy.mk {l : Launch} {G : va_G} {kc : Nat → ClassId} {z0 : Nat} {y : MethodName} {b : ByteArray} {n : Nat} {f k mc ms : Nat} {av : List Value} {w0 : va_W} {S : Type} {w1 : S → va_W} (hy : plainName y.cls = true) (hin : y.name = "<init>") (hn : (lg_sl av).length ≤ n)
    (body : ∀ (p : Program) (e : Env) (s : State) (m : MethodId) (args : Array Value) (below : List Frame) (meth : Method) (c : Code) (A : Nat → Prop) (ls : Array Slot) (Q : State → Prop), AX kc s → SZ z0 s s.heap → (∀ q, A q → z0 ≤ q) → z0 ≤ s.heap.size → Q = EQn G kc below s args A w1 mc ms → CallFix p m c b n s args gwl y.cls → meth.sig.returnType = none → meth.locks = false → meth.name = "<init>" → NW s → (∀ q, s.heap.size ≤ q → A q) → VK G kc s → lv_has ls n (lv_args 0 av) → VP G w0 s.heap → va_D A w0 → va_S A s.heap s.heap [] → W p l e (rmc f k mc ms) s m args below meth c s.heap [] 0 0 Q (F0 m 0 ls [])) : CNy l G kc z0 y b n (rmc f k mc ms) av w0 w1 mc ms := by
  intro sz
  refine Met.ofW (cc := b) (maxL := n) (ret := none) hy rfl ?_
  intro p e s m args below meth c s₁ B hml hv
  obtain ⟨rfl, ⟨⟨hsz, hP, hK, hD0, hN⟩, hz, hDz, hZ⟩, hX⟩ := hv
  have hts := atoms_spec (ws := wm y b n none) B.pre
  subst hsz
  have hD := hD0.self (sz := s.heap.size)
  have hl := lv_entry av (n := n) hn
  rw [lg_entry_eq]
  refine body p e s m _ below meth c _ _ _ hX hZ (fun q h => ?_) hz rfl ⟨B.exec, B.bytes, hml, findClass_of_methodNamed B.named, fun w hw => hts w (List.mem_cons_of_mem _ hw)⟩ B.returns B.notSynchronized ((name_of_methodNamed B.named B.method).1.trans hin) hN (fun q h => Or.inr h) hK hl hP hD va_S.rf
  rcases h with ⟨k, e, h⟩ | h
  · exact hDz.2 k (q, e) h
  · omega
/-- the same cells in another order -/
theorem vaD_pw {A : Nat → Prop} {ws : va_W} : va_D A ws ↔ (ws.Pairwise (fun p q => p.1 ≠ q.1) ∧ ∀ q ∈ ws, A q.1) := by
  constructor
  · intro h
    refine ⟨List.pairwise_iff_getElem.mpr fun i j hi hj hij e => ?_, fun q hq => ?_⟩
    · have := h.1 i j _ _ (List.getElem?_eq_getElem hi) (List.getElem?_eq_getElem hj) e
      omega
    · obtain ⟨k, hk⟩ := List.getElem?_of_mem hq
      exact h.2 k q hk
  · intro h
    obtain ⟨h1, h2⟩ := h
    refine ⟨fun i j p q hi hj e => ?_, fun k q hk => h2 q (List.mem_of_getElem? hk)⟩
    obtain ⟨hi', rfl⟩ := List.getElem?_eq_some_iff.mp hi
    obtain ⟨hj', rfl⟩ := List.getElem?_eq_some_iff.mp hj
    rcases Nat.lt_trichotomy i j with h | h | h
    · exact absurd e (List.pairwise_iff_getElem.mp h1 i j hi' hj' h)
    · exact h
    · exact absurd e.symm (List.pairwise_iff_getElem.mp h1 j i hj' hi' h)
theorem w_perm {G : va_G} {A : Nat → Prop} {ws ws' : va_W} {H : Heap} (h : ws.Perm ws') (hP : VP G ws H) (hD : va_D A ws) : VP G ws' H ∧ va_D A ws' := by
  refine ⟨vp_of fun q hq => vp_at hP (h.mem_iff.mpr hq), ?_⟩
  obtain ⟨h1, h2⟩ := vaD_pw.mp hD
  exact vaD_pw.mpr ⟨(h.pairwise_iff (fun h => Ne.symm h)).mp h1, fun q hq => h2 q (h.mem_iff.mpr hq)⟩
theorem arrV_ext {cA : ClassId} {n : Nat} {f g : Nat → Value} (h : ∀ k, k < n → f k = g k) : arrV cA n f = arrV cA n g := by
  unfold arrV
  congr 1
  congr 1
  funext j
  exact h j.val j.isLt
theorem at_ext_i {D : va_G} {cl : List vw_C} {a n : Nat} {cA : ClassId} {f g : Nat → Int32} {H : Heap} (h : ∀ k, k < n → f k = g k) (hP : va_at D cl (a, .inl (cA, n, .inl f)) H) : va_at D cl (a, .inl (cA, n, .inl g)) H := by
  have e : vp_cell cA (n, .inl f) = vp_cell cA (n, .inl g) := by
    rw [vp_cell_i, vp_cell_i]
    exact arrV_ext (fun k hk => by rw [h k hk])
  show H[a]? = some (vp_cell cA (n, .inl g))
  rw [← e]
  exact hP
theorem at_ext_q {D : va_G} {cl : List vw_C} {a n : Nat} {cA : ClassId} {f g : Nat → Option Nat} {H : Heap} (h : ∀ k, k < n → f k = g k) (hP : va_at D cl (a, .inl (cA, n, .inr (.inr (.inr (.inr f))))) H) : va_at D cl (a, .inl (cA, n, .inr (.inr (.inr (.inr g))))) H := by
  have e : vp_cell cA (n, .inr (.inr (.inr (.inr f)))) = vp_cell cA (n, .inr (.inr (.inr (.inr g)))) := by
    rw [vp_cell_q, vp_cell_q]
    exact arrV_ext (fun k hk => by rw [h k hk])
  show H[a]? = some (vp_cell cA (n, .inr (.inr (.inr (.inr g)))))
  rw [← e]
  exact hP
/-- an outer row whose first i places have been filled; an inner row; the state with i inner rows -/
def mzo (c : ClassId) (N h i : Nat) : Cell := arrV c N (fun j => if j < i then .ref (h + 1 + j) else .null)
def mzi (d : ClassId) (M : Nat) : Cell := arrV d M (fun _ => .int 0)
def mzs (T : State) (c d : ClassId) (N M : Nat) : Nat → State
  | 0 => T.pushCell (mzo c N T.heap.size 0)
  | i + 1 => ((mzs T c d N M i).pushCell (mzi d M)).setCell T.heap.size (mzo c N T.heap.size (i + 1))
theorem mo_next (c : ClassId) (N h i : Nat) : (mzo c N h i).setSlot i (.ref (h + 1 + i)) = mzo c N h (i + 1) := by
  unfold mzo
  rw [arrV_store]
  refine arrV_ext (fun j _ => ?_)
  unfold updV
  by_cases hj : j = i
  · subst hj
    rw [if_pos rfl, if_pos (Nat.lt_succ_self j)]
  · rw [if_neg hj]
    show (if j < i then Value.ref (h + 1 + j) else Value.null) = _
    by_cases h2 : j < i
    · rw [if_pos h2, if_pos (by omega)]
    · rw [if_neg h2, if_neg (by omega)]
theorem mz_f (T : State) (c d : ClassId) (N M : Nat) : ∀ i : Nat, (mzs T c d N M i).heap.size = T.heap.size + 1 + i ∧ (mzs T c d N M i).heap[T.heap.size]? = some (mzo c N T.heap.size i) ∧ (mzs T c d N M i).vm = T.vm ∧ (mzs T c d N M i).slotsUsed = T.slotsUsed + (N + i * M) ∧ (∀ a : Nat, a < T.heap.size → (mzs T c d N M i).heap[a]? = T.heap[a]?) ∧ (∀ j : Nat, j < i → (mzs T c d N M i).heap[T.heap.size + 1 + j]? = some (mzi d M)) := by
  intro i
  induction i with
  | zero =>
    refine ⟨size_pushCell _ _, State.heap_pushCell_size _ _, rfl, ?_, fun a h => State.heap_pushCell_of_lt _ _ h, fun j h => absurd h (Nat.not_lt_zero _)⟩
    show (T.pushCell (mzo c N T.heap.size 0)).slotsUsed = _
    rw [State.slotsUsed_pushCell, show (mzo c N T.heap.size 0).slots.size = N from arrV_size _ _ _]
    omega
  | succ i ih =>
    obtain ⟨h1, h2, h3, h4, h5, h6⟩ := ih
    have e : mzs T c d N M (i + 1) = ((mzs T c d N M i).pushCell (mzi d M)).setCell T.heap.size (mzo c N T.heap.size (i + 1)) := rfl
    rw [e]
    generalize mzs T c d N M i = U at h1 h2 h3 h4 h5 h6 ⊢
    have hz : (U.pushCell (mzi d M)).heap.size = T.heap.size + 1 + (i + 1) := by rw [size_pushCell, h1]; omega
    have hlt : T.heap.size < (U.pushCell (mzi d M)).heap.size := by rw [hz]; omega
    refine ⟨by rw [size_setCell, hz], heapAt_setCell_self _ hlt, h3, ?_, fun a h => ?_, fun j h => ?_⟩
    · rw [State.slotsUsed_setCell, State.slotsUsed_pushCell, h4, show (mzi d M).slots.size = M from arrV_size _ _ _, Nat.succ_mul]
      omega
    · have h7 : a < U.heap.size := by rw [h1]; omega
      rw [heapAt_setCell_ne _ (Nat.ne_of_gt h), State.heap_pushCell_of_lt _ _ h7]
      exact h5 a h
    · rw [heapAt_setCell_ne _ (show T.heap.size ≠ T.heap.size + 1 + j by omega)]
      by_cases hj : j < i
      · have h7 : T.heap.size + 1 + j < U.heap.size := by rw [h1]; omega
        rw [State.heap_pushCell_of_lt _ _ h7]
        exact h6 j hj
      · rw [show T.heap.size + 1 + j = U.heap.size by rw [h1]; omega]
        exact State.heap_pushCell_size _ _
theorem mz_top (T : State) (f : JFrame) (c d : ClassId) (N M : Nat) : ∀ i : Nat, mzs (T.setTop f) c d N M i = (mzs T c d N M i).setTop f := by
  intro i
  induction i with
  | zero => rfl
  | succ i ih =>
    show ((mzs (T.setTop f) c d N M i).pushCell (mzi d M)).setCell T.heap.size (mzo c N T.heap.size (i + 1)) = _
    rw [ih]
    rfl
section ROWSJ
variable {p : Program} {l : Launch} {e : Env} {R : Room} {s : State} {m : MethodId} {args : Array Value} {below : List Frame} {meth : Method} {c : Code} {H : Heap} {locs : List Loc} {Q : State → Prop} {CE SL : Nat}
variable {cc : ByteArray} {pc nL : Nat} {ls : Array Slot} {rest st0 : List Value} {G : va_G} {kc : Nat → ClassId} {A : Nat → Prop} {a : Nat} {ws wc : va_W}
variable {y : MethodName} {b : ByteArray} {n idx k f g mc ms : Nat} {own : String} {As : List Value}
theorem mz_X {T : State} (X : Stand p l e R s m args below meth c T locs CE SL) (cA d : ClassId) (N M : Nat) : ∀ i : Nat, ∃ locs1 : List Loc, (∀ q ∈ locs1, q ∈ locs ∨ q.base = T.heap.size) ∧ Stand p l e R s m args below meth c (mzs T cA d N M i) locs1 (CE + (1 + i)) (SL + (N + i * M)) := by
  intro i
  induction i with
  | zero =>
    have h := X.pushed (mzo cA N T.heap.size 0)
    rw [show (mzo cA N T.heap.size 0).slots.size = N from arrV_size _ _ _] at h
    refine ⟨locs, fun q hq => Or.inl hq, ?_⟩
    rw [show SL + (N + 0 * M) = SL + N by omega]
    exact h
  | succ i ih =>
    obtain ⟨L1, hL, Xi⟩ := ih
    obtain ⟨h1, h2, -, -, -, -⟩ := mz_f T cA d N M i
    have hc : ((mzs T cA d N M i).pushCell (mzi d M)).heap[T.heap.size]? = some (mzo cA N T.heap.size i) := by
      have h7 : T.heap.size < (mzs T cA d N M i).heap.size := by rw [h1]; omega
      rw [State.heap_pushCell_of_lt _ _ h7]
      exact h2
    have h := (Xi.pushed (mzi d M)).stored hc i (.ref (T.heap.size + 1 + i))
    rw [mo_next, show (mzi d M).slots.size = M from arrV_size _ _ _] at h
    refine ⟨L1 ++ [⟨T.heap.size, i⟩], fun q hq => ?_, ?_⟩
    · rcases List.mem_append.mp hq with h3 | h3
      · exact hL q h3
      · rw [List.mem_singleton.mp h3]
        exact Or.inr rfl
    · rw [show SL + (N + (i + 1) * M) = SL + (N + i * M) + M by rw [Nat.succ_mul]; omega, show CE + (1 + (i + 1)) = CE + (1 + i) + 1 by omega]
      exact h
theorem mk_in {E : CtlPost} {d : Bool} {acts : List Action} {U : State} {dC cD : ClassId} {kd : Class} {w : Int32} (h1 : U.vm.classes[dC]? = some kd) (h2 : kd.kind = .array cD .int) (hw : ¬ w < 0) (hl : ¬ w.toNatClampNeg > e.platform.arrayLengthLimit) (hh : ¬ w.toNatClampNeg * componentBytes .int > e.platform.maxHeapBytes) (hc : U.heap.size < e.platform.maxCells) (hs : U.slotsUsed + w.toNatClampNeg ≤ e.platform.maxSlots) {P : Addr → Pre} (hq : ∀ acts', P U.heap.size d acts' (U.pushCell (mzi dC w.toNatClampNeg))) : wp (Jvm.Op.multianewarray.make dC [w]) P E e d acts U := by
  rw [Jvm.Op.multianewarray.make]
  simp only [wp_bind', W.ite, hw, if_false, wp_pure', W.theClass, h1, h2, Option.some.injEq, exists_eq_left']
  refine W.newArray_of h1 h2 hl hh hc hs rfl (fun acts' => ?_)
  have h := hq acts'
  unfold mzi at h
  rw [← arrV_new] at h
  exact h
theorem mk_out {E : CtlPost} {d : Bool} {acts : List Action} {U : State} {cA dC cD : ClassId} {ka kd : Class} {v w : Int32} {N M : Nat} (ha : U.vm.classes[cA]? = some ka) (hka : ka.kind = .array dC (.array .int)) (h1 : U.vm.classes[dC]? = some kd) (h2 : kd.kind = .array cD .int) (hv : ¬ v < 0) (hw : ¬ w < 0) (hN : v.toNatClampNeg = N) (hM : w.toNatClampNeg = M)
    (hl1 : ¬ N > e.platform.arrayLengthLimit) (hh1 : ¬ N * componentBytes (.array .int) > e.platform.maxHeapBytes) (hl : ¬ M > e.platform.arrayLengthLimit) (hh : ¬ M * componentBytes .int > e.platform.maxHeapBytes) (hc : U.heap.size + (1 + N) ≤ e.platform.maxCells) (hs : U.slotsUsed + (N + N * M) ≤ e.platform.maxSlots)
    {P : Addr → Pre} (hq : ∀ d' acts', P U.heap.size d' acts' (mzs U cA dC N M N)) : wp (Jvm.Op.multianewarray.make cA [v, w]) P E e d acts U := by
  subst hN hM
  have hno : ([w].find? (· < 0)) = none := by simp [hw]
  rw [Jvm.Op.multianewarray.make]
  simp only [wp_bind', W.ite, hv, if_false, wp_pure', W.theClass, ha, hka, Option.some.injEq, exists_eq_left']
  refine W.newArray_of ha hka hl1 hh1 (by omega) (by omega) rfl (fun acts' => ?_)
  simp only [hno]
  rw [ite_self, wp_bind', Std.Legacy.Range.forIn_eq_forIn_range', show ([:v.toNatClampNeg] : Std.Legacy.Range).size = v.toNatClampNeg by simp [Std.Legacy.Range.size]]
  have e0 : U.pushCell { cls := cA, slots := Array.replicate v.toNatClampNeg .null } = mzs U cA dC v.toNatClampNeg w.toNatClampNeg 0 := by
    show U.pushCell ({ cls := cA, slots := Array.replicate v.toNatClampNeg .null, vm := .none } : Cell) = U.pushCell (mzo cA v.toNatClampNeg U.heap.size 0)
    rw [arrV_new]
    exact congrArg _ (arrV_ext (fun j _ => by rw [if_neg (Nat.not_lt_zero j)]))
  rw [e0]
  refine wp_forIn_inv (fun r t => ∃ i : Nat, i + r.length = v.toNatClampNeg ∧ r = List.range' i r.length ∧ t = mzs U cA dC v.toNatClampNeg w.toNatClampNeg i) _ _ ⟨0, by simp, by simp, rfl⟩ ?_ ?_
  · intro x r t d' acts2 P' hI hnext
    obtain ⟨i, hi, hr, rfl⟩ := hI
    rw [List.length_cons] at hi hr
    rw [List.range'_succ] at hr
    obtain ⟨rfl, hr2⟩ := List.cons.inj hr
    obtain ⟨f1, f2, f3, f4, -, -⟩ := mz_f U cA dC v.toNatClampNeg w.toNatClampNeg x
    have hmul : x * w.toNatClampNeg + w.toNatClampNeg ≤ v.toNatClampNeg * w.toNatClampNeg := by
      have h := Nat.mul_le_mul_right w.toNatClampNeg (show x + 1 ≤ v.toNatClampNeg by omega)
      rw [Nat.succ_mul] at h
      exact h
    simp only [wp_bind']
    refine mk_in (by rw [f3]; exact h1) h2 hw hl hh (by rw [f1]; omega) (by rw [f4]; omega) (fun acts3 => ?_)
    simp only [wp_bind', W.writeLoc, wp_pure']
    refine ⟨mzo cA v.toNatClampNeg U.heap.size x, ?_, (fun h => by cases h), ?_, ?_, hnext _ _ _ ⟨x + 1, by omega, hr2, ?_⟩⟩
    · have h7 : U.heap.size < (mzs U cA dC v.toNatClampNeg w.toNatClampNeg x).heap.size := by rw [f1]; omega
      rw [State.heap_pushCell_of_lt _ _ h7]
      exact f2
    · rw [show (mzo cA v.toNatClampNeg U.heap.size x).slots.size = v.toNatClampNeg from arrV_size _ _ _]
      omega
    · show State.fitsSlot _ cA .none x _ = true
      simp [State.fitsSlot, State.slotType?, f3, ha, hka, fits]
    · rw [f1, mo_next]
      rfl
  · intro t d' acts2 hI
    obtain ⟨i, hi, -, rfl⟩ := hI
    simp only [List.length_nil, Nat.add_zero] at hi
    subst hi
    simp only [wp_pure']
    exact hq _ _
theorem i_multi {v w : Int32} {N M : Nat} (S : CallFix p m c cc nL s args gwl own) (hL : Cond.classLink own idx "[[I" ∈ gwl) (hX : AX kc s) (hK : VK G kc s) (hP : VP G ws H) (hD : va_D A ws) (hS : va_S A s.heap H locs) (hA : ∀ q, s.heap.size ≤ q → A q) (hv : ¬ v < 0) (hw : ¬ w < 0) (hN : v.toNatClampNeg = N) (hM : w.toNatClampNeg = M) (hN2 : N ≤ 1000) (hM2 : M ≤ 1000) (hc : CE + (1 + N) ≤ R.cells) (hs : SL + (N + N * M) ≤ R.slots) (hdg : decode cc pc = .ok (.multianewarray idx 2, 4))
    (kk : ∀ (q : Nat) (H1 : Heap) (locs1 : List Loc), VP G (ws ++ ((q, .inl (kc 4, N, .inr (.inr (.inr (.inr (fun j => some (q + 1 + j))))))) :: (List.range N).map (fun j => (q + 1 + j, .inl (kc 0, M, .inl (fun _ => 0)))))) H1 → va_D A (ws ++ ((q, .inl (kc 4, N, .inr (.inr (.inr (.inr (fun j => some (q + 1 + j))))))) :: (List.range N).map (fun j => (q + 1 + j, .inl (kc 0, M, .inl (fun _ => 0)))))) → va_S A s.heap H1 locs1 → W p l e R s m args below meth c H1 locs1 (CE + (1 + N)) (SL + (N + N * M)) Q (F0 m (pc + 4) ls (.ref q :: rest))) : W p l e R s m args below meth c H locs CE SL Q (F0 m pc ls (.int w :: .int v :: rest)) := by
  obtain ⟨hx, hb, -, hown, hts⟩ := S
  intro T hT X
  subst hT
  subst hb
  obtain ⟨-, kA, hkA, hkindA⟩ := hX
  obtain ⟨-, kC, hkC, cD, hkindC⟩ := (hK.2 0 _ rfl).1 0 (fun _ => .null)
  have hname : s.vm.findClass "[[I" = some (kc 4) := (hK.2 4 _ rfl).2
  have hpl : e.platform.magicAccessors = ({} : Platform).magicAccessors := by rw [X.admits.platform]
  obtain ⟨c0, hc0, hcl⟩ := Cond.classLink_spec hown (hts _ hL) e.platform hpl
  cases hname.symm.trans hc0
  obtain ⟨hg₁, hwarm₁, hready₁⟩ := State.classEntry (e := e) X.warmed hcl
  generalize T.vm.noted m.cls idx (.cls (kc 4)) = vm₁ at hg₁ hwarm₁ hready₁
  have hal : s.vm.Alike vm₁ := hwarm₁.alike
  obtain ⟨kA₁, hkA₁, heA⟩ := hal.2.2 _ _ hkA
  obtain ⟨kC₁, hkC₁, heC⟩ := hal.2.2 _ _ hkC
  have hkindA₁ : kA₁.kind = .array (kc 0) (.array .int) := by rw [heA]; exact hkindA
  have hkindC₁ : kC₁.kind = .array cD .int := by rw [heC]; exact hkindC
  have X₁ := X.noted hwarm₁
  obtain ⟨hr1, hr2⟩ := X.roomAbove hc hs
  obtain ⟨locs1, hlocs, X2⟩ := mz_X X₁ (kc 4) (kc 0) N M N
  obtain ⟨f1, f2, -, -, f5, f6⟩ := mz_f (T.setVm vm₁) (kc 4) (kc 0) N M N
  have f1' : (mzs (T.setVm vm₁) (kc 4) (kc 0) N M N).heap.size = T.heap.size + 1 + N := f1
  have f2' : (mzs (T.setVm vm₁) (kc 4) (kc 0) N M N).heap[T.heap.size]? = some (mzo (kc 4) N T.heap.size N) := f2
  have f5' : ∀ a : Nat, a < T.heap.size → (mzs (T.setVm vm₁) (kc 4) (kc 0) N M N).heap[a]? = T.heap[a]? := f5
  have f6' : ∀ j : Nat, j < N → (mzs (T.setVm vm₁) (kc 4) (kc 0) N M N).heap[T.heap.size + 1 + j]? = some (mzi (kc 0) M) := f6
  have hP2 : VP G (ws ++ ((T.heap.size, .inl (kc 4, N, .inr (.inr (.inr (.inr (fun j => some (T.heap.size + 1 + j))))))) :: (List.range N).map (fun j => (T.heap.size + 1 + j, .inl (kc 0, M, .inl (fun _ => 0)))))) (mzs (T.setVm vm₁) (kc 4) (kc 0) N M N).heap := by
    refine vp_of fun q hq => ?_
    rcases List.mem_append.mp hq with h | h
    · have h1 := vp_at hP h
      exact h1.kept (f5' q.1 h1.lt)
    · rcases List.mem_cons.mp h with h | h
      · subst h
        show (mzs (T.setVm vm₁) (kc 4) (kc 0) N M N).heap[T.heap.size]? = some (vp_cell (kc 4) (N, .inr (.inr (.inr (.inr (fun j => some (T.heap.size + 1 + j)))))))
        rw [f2', vp_cell_q]
        exact congrArg some (arrV_ext (fun j hj => by rw [if_pos hj]; rfl))
      · obtain ⟨j, hj, rfl⟩ := List.mem_map.mp h
        show (mzs (T.setVm vm₁) (kc 4) (kc 0) N M N).heap[T.heap.size + 1 + j]? = some (vp_cell (kc 0) (M, .inl (fun _ => 0)))
        rw [vp_cell_i]
        exact f6' j (List.mem_range.mp hj)
  have hD2 : va_D A (ws ++ ((T.heap.size, .inl (kc 4, N, .inr (.inr (.inr (.inr (fun j => some (T.heap.size + 1 + j))))))) :: (List.range N).map (fun j => (T.heap.size + 1 + j, .inl (kc 0, M, .inl (fun _ => 0)))))) := by
    refine va_D.app hD (vaD_pw.mpr ⟨List.pairwise_cons.mpr ⟨fun q hq => ?_, List.pairwise_map.mpr (List.pairwise_lt_range.imp (fun h e => ?_))⟩, fun q hq => ?_⟩) (fun i j x y hx hy e => ?_)
    · obtain ⟨j, hj, rfl⟩ := List.mem_map.mp hq
      show T.heap.size ≠ T.heap.size + 1 + j
      omega
    · have e2 := Nat.add_left_cancel e
      omega
    · refine hA q.1 (Nat.le_trans hS.1 ?_)
      rcases List.mem_cons.mp hq with h | h
      · rw [h]
        exact Nat.le_refl _
      · obtain ⟨j, hj, rfl⟩ := List.mem_map.mp h
        show T.heap.size ≤ T.heap.size + 1 + j
        omega
    · have h1 := (hP i x hx).lt
      have h2 : T.heap.size ≤ y.1 := by
        rcases List.mem_cons.mp (List.mem_of_getElem? hy) with h | h
        · rw [h]
          exact Nat.le_refl _
        · obtain ⟨j, hj, rfl⟩ := List.mem_map.mp h
          show T.heap.size ≤ T.heap.size + 1 + j
          omega
      omega
  have hS2 : va_S A s.heap (mzs (T.setVm vm₁) (kc 4) (kc 0) N M N).heap locs1 := by
    refine ⟨by rw [f1']; have := hS.1; omega, fun x h1 h2 => (f5' x (Nat.lt_of_lt_of_le h1 hS.1)).trans (hS.2.1 x h1 h2), fun q hq => ?_⟩
    rcases hlocs q hq with h | h
    · exact hS.2.2 q h
    · rw [h]
      exact hA _ hS.1
  obtain ⟨t, a1, b1⟩ := kk T.heap.size _ locs1 hP2 hD2 hS2 _ rfl X2
  refine ⟨t, ?_, b1⟩
  have hl1 : ¬ N > e.platform.arrayLengthLimit := by rw [Launch.admits_arrayLengthLimit X.admits]; omega
  have hh1 : ¬ N * componentBytes (.array .int) > e.platform.maxHeapBytes := by
    rw [Launch.admits_maxHeapBytes X.admits]
    show ¬ N * 4 > 536870912
    omega
  have hl2 : ¬ M > e.platform.arrayLengthLimit := by rw [Launch.admits_arrayLengthLimit X.admits]; omega
  have hh2 : ¬ M * componentBytes .int > e.platform.maxHeapBytes := by
    rw [Launch.admits_maxHeapBytes X.admits]
    show ¬ M * 4 > 536870912
    omega
  jvm_step X.here [hx, hdg]
  simp only [Jvm.Op.multianewarray.sem, wp_bind', W.resolveClassAt_links (State.method?_setTop (F0 m pc ls (.int w :: .int v :: rest)) X.here.top) hg₁]
  rw [W.popN, if_neg (by decide)]
  refine ⟨F0 m pc ls (.int w :: .int v :: rest), State.topJava?_setTop' (s := T.setVm vm₁) _ X.here.top, [.int v, .int w], rest, rfl, rfl, ?_⟩
  simp only [List.mapM_cons, List.mapM_nil, wp_bind', wp_pure']
  refine mk_out (N := N) (M := M) hkA₁ hkindA₁ hkC₁ hkindC₁ hv hw hN hM hl1 hh1 hl2 hh2 (by show T.heap.size + _ ≤ _; omega) (by show T.slotsUsed + _ ≤ _; omega) (fun d' acts' => ?_)
  have eS : ((T.setTop (F0 m pc ls (.int w :: .int v :: rest))).setVm vm₁).setTop (F0 m pc ls rest) = (T.setVm vm₁).setTop (F0 m pc ls rest) := by
    show ((T.setVm vm₁).setTop (F0 m pc ls (.int w :: .int v :: rest))).setTop _ = _
    rw [State.setTop_setTop]
  rw [eS, mz_top]
  simp only [wp_bind', W.mark, W.pushRef, State.topJava?_setTop' _ X2.here.top, Option.some.injEq, exists_eq_left', State.setTop_setTop, State.heap_setTop]
  intro acts
  simp [jvm, X2.here.top]
  exact a1
theorem i_newq {v : Int32} {N' : Nat} (S : CallFix p m c cc nL s args gwl own) (hL : Cond.classLink own idx RX0 ∈ gwl) (hX : AX kc s) (hK : VK G kc s) (hP : VP G ws H) (hD : va_D A ws) (hS : va_S A s.heap H locs) (hA : ∀ q, s.heap.size ≤ q → A q) (hn : ¬ v < 0) (hN : v.toNatClampNeg = N') (hbytes : N' * 4 ≤ 536870912) (hcells : CE + 1 ≤ R.cells) (hslots : SL + N' ≤ R.slots) (hdg : decode cc pc = .ok (.anewarray idx, 3))
    (kk : ∀ (q : Nat) (H1 : Heap), VP G (ws ++ [(q, .inl (kc 3, N', .inr (.inr (.inr (.inr (fun _ => none))))))]) H1 → va_D A (ws ++ [(q, .inl (kc 3, N', .inr (.inr (.inr (.inr (fun _ => none))))))]) → va_S A s.heap H1 locs → W p l e R s m args below meth c H1 locs (CE + 1) (SL + N') Q (F0 m (pc + 3) ls (.ref q :: rest))) : W p l e R s m args below meth c H locs CE SL Q (F0 m pc ls (.int v :: rest)) := by
  obtain ⟨hx, hb, hml, hown, hts⟩ := S
  refine va_newq (C := RX0) hx hb hown (hts _ hL) hX.1 hK hP hD hS hA hn hN hbytes hcells hslots hdg (fun q cA H1 hK1 hP1 hD1 hS1 => ?_)
  obtain ⟨k1, c1, _, _, _, h1⟩ := (hK.2 3 _ rfl).2
  obtain ⟨k2, c2, _, _, _, h2⟩ := (hK1.2 5 (cA, .object RX0) rfl).2
  have e1 : cA = kc 3 := Option.some.inj (h2.symm.trans h1)
  subst e1
  exact kk q H1 hP1 hD1 hS1
theorem i_getsN {nm host : String} {t z0 : Nat} (S : CallFix p m c cc nL s args gwl own) (hN : NW s) (hZ : va_Z RX7 nm "[I" (.ref t) (fun q : Nat => z0 ≤ q) s s.heap) (hAz : ∀ q, A q → z0 ≤ q) (hS : va_S A s.heap H locs) (hl : Cond.fieldLinkNest own idx RX7 nm "[I" host ∈ tables_1) (hdg : decode cc pc = .ok (.getstatic idx, 3)) (kk : W p l e R s m args below meth c H locs CE SL Q (F0 m (pc + 3) ls (.ref t :: rest))) : W p l e R s m args below meth c H locs CE SL Q (F0 m pc ls rest) :=
  va_getsN S.1 S.2.1 (hZ.narrow hAz) hS S.2.2.2.1 (va_Nw.use rfl (hN _ hl rfl)) (fun _ h => h) hdg kk
theorem blind_y {z0 : Nat} {av : List Value} {sz : Nat} : FrameBlind (va_Pc av (Ciny G kc z0 wc sz)) := by
  intro a U g mk q
  obtain ⟨q0, ⟨⟨q1, qP, qK, qD, qN⟩, q2, q3, q4⟩, q5⟩ := q
  exact ⟨q0, ⟨⟨q1, qP, va_K.moved (u := U) (U := U.calling g mk a) (Vm.Alike.refl U.vm) qK, qD, qN.call⟩, q2, q3, q4.go (s := U) (fun _ _ _ => rfl) (Vm.Alike.refl U.vm)⟩, q5.moved (u := U) (U := U.calling g mk a) (Vm.Alike.refl U.vm)⟩
theorem i_callY {S : Type} {w1 : S → va_W} {X : va_W} {z0 : Nat} (T : CallFix p m c cc nL s args gwl own) (hN : NW s) (hX : AX kc s) (hZ : SZ z0 s s.heap) (hAz : ∀ q, A q → z0 ≤ q) (hz0 : z0 ≤ s.heap.size) (hB : CBI y b n k) (hL : Cond.methodLink own idx y ∈ gwl) (hR : f + 1 ≤ R.frames ∧ 8 + (n + 11) + g ≤ R.locals) (hc : CE + mc ≤ R.cells ∧ SL + ms ≤ R.slots) (hM : CNy l G kc z0 y b n (rmc f g mc ms) (.ref a :: As) wc w1 mc ms) (hK : VK G kc s) (hP : VP G (X ++ wc) H) (hD : va_D A (X ++ wc)) (hS : va_S A s.heap H locs) (hA : ∀ q, s.heap.size ≤ q → A q)
    (hn : As.length = k) (hst : st0 = As.reverse ++ .ref a :: rest) (hcat : (rest.map fun v => v.category).sum ≤ 8) (hls : ls.size = nL) (hdg : decode cc pc = .ok (.invokespecial idx, 3))
    (kk : ∀ (u : S) (H1 : Heap) (locs1 : List Loc), VP G (X ++ w1 u) H1 → va_D A (X ++ w1 u) → va_S A s.heap H1 locs1 → W p l e R s m args below meth c H1 locs1 (CE + mc) (SL + ms) Q (F0 m (pc + 3) ls rest)) : W p l e R s m args below meth c H locs CE SL Q (F0 m pc ls st0) := by
  obtain ⟨h1, h2, h3, h4, h5⟩ := hB
  have hts := T.2.2.2.2
  have hDc := vaD_tail hD
  have hPc : VP G wc H := vp_of fun q hq => vp_at hP (List.mem_append_right _ hq)
  exact i_call (As := .ref a :: As) (va_runI T (hM H.size) (cwI k hts (gw_wm h3) rfl rfl rfl (hts _ h2) (hts _ hL) (hts _ h1) h4 h5 hR) ⟨blind_y, fun U hU hW => ⟨rfl, ⟨pre_s hK hN hPc hDc hU hW, Nat.le_trans hz0 hS.1, hDc.weaken (fun k q _ h => hAz q.1 h), by rw [hU]; exact hZ.go (fun a h1 h2 => hS.2.1 a h1 (fun h => h2 (hAz a h))) hW.alike⟩, hX.moved hW.alike⟩⟩ rfl hn hls hst (lv_room hcat) hdg hc) hP hD hS hA kk
end ROWSJ
