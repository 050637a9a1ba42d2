/-! the words: those of the tables that are good, as one list for every contract -/
def gwl : List Cond := lw_tbl.filter goodWord
theorem gw_t {w : Cond} (h : w ∈ tables_1) (g : goodWord w = true) : w ∈ gwl := List.mem_filter.mpr ⟨List.mem_append_right _ h, g⟩
theorem gw_s {w : Cond} (h : w ∈ k2_sels lw_privs) (g : goodWord w = true) : w ∈ gwl := List.mem_filter.mpr ⟨List.mem_append_left _ h, g⟩
theorem gw_good {w : Cond} (h : w ∈ gwl) : goodWord w = true := (List.mem_filter.mp h).2
theorem gw_in {ws : List Cond} (h : ∀ w ∈ ws, w ∈ gwl) : GoodIn gwl ws := fun w hw => ⟨h w hw, good_of_word (gw_good (h w hw))⟩
abbrev wm (y : MethodName) (b : ByteArray) (n : Nat) (r : Option FieldType) : List Cond := Cond.code y b n r :: gwl
theorem gw_wm {y : MethodName} {b : ByteArray} {n : Nat} {r : Option FieldType} (h : Cond.code y b n r ∈ gwl) : GoodIn gwl (wm y b n r) := gw_in (fun w hw => (List.mem_cons.mp hw).elim (fun e => e ▸ h) (fun q => q))
/-- words of nest mates -/
def nw_is (w : Cond) : Bool := match w with
  | .methodLinkNest _ _ _ _ => true
  | .fieldLinkNest _ _ _ _ _ _ => true
  | _ => false
def NW (U : State) : Prop := ∀ w ∈ tables_1, nw_is w = true → va_Nw w U
theorem NW.warm {s U : State} (hW : s.WarmedH U.vm) (h : NW s) : NW U := by
  intro w hw hn
  have h1 := h w hw hn
  cases w <;> first | exact va_Nw.warmM hW h1 | exact va_Nw.warmF hW h1 | exact absurd hn (by simp [nw_is])
theorem NW.call {U : State} {g : JFrame} {mk : MethodId} {a : Array Value} (h : NW U) : NW (U.calling g mk a) := by
  intro w hw hn
  have h1 := h w hw hn
  cases w <;> first | exact va_Nw.same (u := U) rfl rfl h1 | exact absurd hn (by simp [nw_is])
theorem NW.of {args : Array Value} {s : State} (h : ∀ w ∈ tables_1, w.before args s = true) : NW s := by
  intro w hw hn
  have h1 := h w hw
  cases w <;> first | exact va_Nw.of rfl h1 | exact absurd hn (by simp [nw_is])
abbrev ty5 (kc : Nat → ClassId) : List (ClassId × FieldType) := [(kc 0, .int), (kc 1, .long), (kc 2, .boolean), (kc 3, .object RX0), (kc 4, .array .int)]
abbrev VP (G : va_G) (ws : va_W) (H : Heap) : Prop := va_P G vwCl ws H
abbrev VK (G : va_G) (kc : Nat → ClassId) (U : State) : Prop := va_K G vwCl (ty5 kc) U
def Cin (G : va_G) (kc : Nat → ClassId) (w0 : va_W) (sz : Nat) : State → Prop := fun U => U.heap.size = sz ∧ VP G w0 U.heap ∧ VK G kc U ∧ va_D (fun _ => True) w0 ∧ NW U
def Cout (G : va_G) (kc : Nat → ClassId) (A : Nat → Prop) (w1 : va_W) : State → Prop := fun t => VP G w1 t.heap ∧ VK G kc t ∧ va_D A w1
abbrev Qi (G : va_G) (kc : Nat → ClassId) (A : Nat → Prop) (w1 : va_W) (x : Int32) : Array Value → State → Outcome → State → Prop := va_Qi (fun (q : Int32) (_ : Unit) => q = x) (fun _ t => Cout G kc A w1 t) A
abbrev Qv (G : va_G) (kc : Nat → ClassId) (A : Nat → Prop) (w1 : va_W) : Array Value → State → Outcome → State → Prop := va_Qv (fun (_ : Unit) => True) (fun _ t => Cout G kc A w1 t) A
/-- a contract: from the world w0 to the world w1, the answer x; nothing made -/
def CTi (l : Launch) (G : va_G) (kc : Nat → ClassId) (y : MethodName) (b : ByteArray) (n : Nat) (r : Option FieldType) (rm : Room) (av : List Value) (w0 w1 : va_W) (x : Int32) : Prop := ∀ sz, Met l y (wm y b n r) rm (va_Pc av (Cin G kc w0 sz)) (Qi G kc (va_A w0 sz) w1 x) 0 0 (va_A w0 sz)
def CTv (l : Launch) (G : va_G) (kc : Nat → ClassId) (y : MethodName) (b : ByteArray) (n : Nat) (r : Option FieldType) (rm : Room) (av : List Value) (w0 w1 : va_W) : Prop := ∀ sz, Met l y (wm y b n r) rm (va_Pc av (Cin G kc w0 sz)) (Qv G kc (va_A w0 sz) w1) 0 0 (va_A w0 sz)
abbrev EQi (G : va_G) (kc : Nat → ClassId) (below : List Frame) (s : State) (args : Array Value) (A : Nat → Prop) (w1 : va_W) (x : Int32) : State → Prop := MQ below (Qi G kc A w1 x) args s 0 0 A
abbrev EQv (G : va_G) (kc : Nat → ClassId) (below : List Frame) (s : State) (args : Array Value) (A : Nat → Prop) (w1 : va_W) : State → Prop := MQ below (Qv G kc A w1) args s 0 0 A
abbrev WW (p : Program) (l : Launch) (e : Env) (R : Room) (s : State) (m : MethodId) (args : Array Value) (below : List Frame) (meth : Method) (c : Code) (Q : State → Prop) (H : Heap) (locs : List Loc) (pc : Nat) (ls : Array Slot) (st : List Value) : Prop := W p l e R s m args below meth c H locs 0 0 Q (F0 m pc ls st)
abbrev rmq (f n : Nat) : Room := { frames := f, cells := 0, slots := 0, locals := n }
theorem CTi.mk {l : Launch} {G : va_G} {kc : Nat → ClassId} {y : MethodName} {b : ByteArray} {n : Nat} {r : Option FieldType} {f k : Nat} {av : List Value} {w0 w1 : va_W} {x : Int32} (hy : plainName y.cls = true) (hn : (lg_sl av).length ≤ n)
    (body : ∀ (p : Program) (e : Env) (s : State) (m : MethodId) (args : Array Value) (below : List Frame) (meth : Method) (c : Code) (A : Nat → Prop) (ls : Array Slot) (Q : State → Prop), Q = EQi G kc below s args A w1 x → CallFix p m c b n s args gwl y.cls → meth.sig.returnType = r → meth.locks = false → NW s → (∀ q, s.heap.size ≤ q → A q) → VK G kc s → lv_has ls n (lv_args 0 av) → VP G w0 s.heap → va_D A w0 → va_S A s.heap s.heap [] → WW p l e (rmq f k) s m args below meth c Q s.heap [] 0 ls []) : CTi l G kc y b n r (rmq f k) av w0 w1 x := by
  intro sz
  refine Met.ofW (cc := b) (maxL := n) (ret := r) hy rfl ?_
  intro p e s m args below meth c s₁ B hml hv
  obtain ⟨rfl, hsz, hP, hK, hD0, hN⟩ := hv
  have hts := atoms_spec (ws := wm y b n r) B.pre
  subst hsz
  have hD := hD0.self (sz := s.heap.size)
  have hl := lv_entry av (n := n) hn
  rw [lg_entry_eq]
  exact body p e s m _ below meth c _ _ _ rfl ⟨B.exec, B.bytes, hml, findClass_of_methodNamed B.named, fun w hw => hts w (List.mem_cons_of_mem _ hw)⟩ B.returns B.notSynchronized hN (fun q h => Or.inr h) hK hl hP hD va_S.rf
theorem CTv.mk {l : Launch} {G : va_G} {kc : Nat → ClassId} {y : MethodName} {b : ByteArray} {n : Nat} {r : Option FieldType} {f k : Nat} {av : List Value} {w0 w1 : va_W} (hy : plainName y.cls = true) (hn : (lg_sl av).length ≤ n)
    (body : ∀ (p : Program) (e : Env) (s : State) (m : MethodId) (args : Array Value) (below : List Frame) (meth : Method) (c : Code) (A : Nat → Prop) (ls : Array Slot) (Q : State → Prop), Q = EQv G kc below s args A w1 → CallFix p m c b n s args gwl y.cls → meth.sig.returnType = r → meth.locks = false → NW s → (∀ q, s.heap.size ≤ q → A q) → VK G kc s → lv_has ls n (lv_args 0 av) → VP G w0 s.heap → va_D A w0 → va_S A s.heap s.heap [] → WW p l e (rmq f k) s m args below meth c Q s.heap [] 0 ls []) : CTv l G kc y b n r (rmq f k) av w0 w1 := by
  intro sz
  refine Met.ofW (cc := b) (maxL := n) (ret := r) hy rfl ?_
  intro p e s m args below meth c s₁ B hml hv
  obtain ⟨rfl, hsz, hP, hK, hD0, hN⟩ := hv
  have hts := atoms_spec (ws := wm y b n r) B.pre
  subst hsz
  have hD := hD0.self (sz := s.heap.size)
  have hl := lv_entry av (n := n) hn
  rw [lg_entry_eq]
  exact body p e s m _ below meth c _ _ _ rfl ⟨B.exec, B.bytes, hml, findClass_of_methodNamed B.named, fun w hw => hts w (List.mem_cons_of_mem _ hw)⟩ B.returns B.notSynchronized hN (fun q h => Or.inr h) hK hl hP hD va_S.rf
/-! worlds changed in place -/
def wset : va_W → List Nat → va_W → va_W
  | ws, i :: is, q :: w => wset (ws.set i q) is w
  | ws, _, _ => ws
theorem wset_get : ∀ (is : List Nat) (ws w1 : va_W) (k : Nat) (q : Nat × va_E), is.length = w1.length → (wset ws is w1)[k]? = some q → (∃ j : Nat, is[j]? = some k ∧ w1[j]? = some q) ∨ (k ∉ is ∧ ws[k]? = some q)
  | [], ws, [], k, q, _, h => Or.inr ⟨List.not_mem_nil, h⟩
  | [], _, _ :: _, _, _, hl, _ => by simp at hl
  | _ :: _, _, [], _, _, hl, _ => by simp at hl
  | i :: is, ws, x :: w, k, q, hl, h => by
    rcases wset_get is (ws.set i x) w k q (by simpa using hl) h with ⟨j, h1, h2⟩ | ⟨h1, h2⟩
    · exact Or.inl ⟨j + 1, by simpa using h1, by simpa using h2⟩
    · by_cases hk : k = i
      · subst hk
        by_cases hlt : k < ws.length
        · rw [List.getElem?_set_self hlt] at h2
          exact Or.inl ⟨0, rfl, h2⟩
        · rw [List.getElem?_eq_none (by simpa using hlt)] at h2
          cases h2
      · rw [List.getElem?_set_ne (Ne.symm hk)] at h2
        exact Or.inr ⟨by simp [hk, h1], h2⟩
theorem wset_fst : ∀ (is : List Nat) (ws w1 : va_W), is.map (fun i => (ws.map Prod.fst)[i]?) = w1.map (fun q => some q.1) → (wset ws is w1).map Prod.fst = ws.map Prod.fst
  | [], _, [], _ => rfl
  | [], _, _ :: _, h => by simp at h
  | _ :: _, _, [], h => by simp at h
  | i :: is, ws, x :: w, h => by
    obtain ⟨h1, h2⟩ := List.cons.inj h
    have hs : (ws.set i x).map Prod.fst = ws.map Prod.fst := by
      rw [List.map_set]
      apply List.ext_getElem?
      intro k
      by_cases hk : k = i
      · subst hk
        by_cases hlt : k < (ws.map Prod.fst).length
        · rw [List.getElem?_set_self hlt]
          exact h1.symm
        · rw [List.getElem?_eq_none (by simpa using hlt), List.getElem?_eq_none (by simpa using hlt)]
      · rw [List.getElem?_set_ne (Ne.symm hk)]
    have := wset_fst is (ws.set i x) w (by rw [hs]; exact h2)
    rw [← hs]
    exact this
theorem vaD_fst {A : Nat → Prop} {ws ws' : va_W} (h : ws'.map Prod.fst = ws.map Prod.fst) (hD : va_D A ws) : va_D A ws' := by
  have key : ∀ (k : Nat) (q : Nat × va_E), ws'[k]? = some q → ∃ q0, ws[k]? = some q0 ∧ q0.1 = q.1 := by
    intro k q hk
    have h1 : (ws'.map Prod.fst)[k]? = some q.1 := by rw [List.getElem?_map, hk]; rfl
    rw [h, List.getElem?_map] at h1
    cases hq : ws[k]? with
    | none => rw [hq] at h1; cases h1
    | some q0 => rw [hq] at h1; exact ⟨q0, rfl, Option.some.inj h1⟩
  refine ⟨fun i j a b hi hj hab => ?_, fun k q hk => ?_⟩
  · obtain ⟨a0, ha0, ea⟩ := key i a hi
    obtain ⟨b0, hb0, eb⟩ := key j b hj
    exact hD.1 i j a0 b0 ha0 hb0 (by rw [ea, eb]; exact hab)
  · obtain ⟨q0, h0, e0⟩ := key k q hk
    rw [← e0]
    exact hD.2 k q0 h0
theorem in_place {A0 : Nat → Prop} {D : va_G} {cl : List vw_C} {ws wc w1 : va_W} {H H1 : Heap} (hP : va_P D cl ws H) (hD : va_D A0 ws) (is : List Nat) (hC : is.map (fun i => ws[i]?) = wc.map some) (ha : w1.map Prod.fst = wc.map Prod.fst)
    (hk : ∀ q : Nat, q < H.size → ¬ va_A wc H.size q → H1[q]? = H[q]?) (hP1 : va_P D cl w1 H1) : va_P D cl (wset ws is w1) H1 ∧ va_D A0 (wset ws is w1) := by
  have hlen : is.length = w1.length := by
    have h1 := congrArg List.length hC
    have h2 := congrArg List.length ha
    simp only [List.length_map] at h1 h2
    omega
  refine ⟨fun k q hq => ?_, vaD_fst (wset_fst is ws w1 ?_) hD⟩
  · rcases wset_get is ws w1 k q hlen hq with ⟨j, -, h2⟩ | ⟨h1, h2⟩
    · exact hP1 j q h2
    · refine (hP k q h2).kept (hk q.1 (hP k q h2).lt ?_)
      intro h
      rcases h with ⟨j, e, hj⟩ | h
      · have h3 : (is.map (fun i => ws[i]?))[j]? = some (some (q.1, e)) := by rw [hC, List.getElem?_map, hj]; rfl
        rw [List.getElem?_map] at h3
        cases hi : is[j]? with
        | none => rw [hi] at h3; cases h3
        | some i =>
          rw [hi] at h3
          have h4 : ws[i]? = some (q.1, e) := Option.some.inj h3
          have h5 := hD.1 k i q (q.1, e) h2 h4 rfl
          subst h5
          exact h1 (List.mem_of_getElem? hi)
      · have := (hP k q h2).lt
        omega
  · have h1 : is.map (fun i => (ws.map Prod.fst)[i]?) = (is.map (fun i => ws[i]?)).map (Option.map Prod.fst) := by
      rw [List.map_map]
      apply List.map_congr_left
      intro i _
      simp
    rw [h1, hC, List.map_map]
    have h2 : (w1.map Prod.fst).map some = (wc.map Prod.fst).map some := by rw [ha]
    rw [List.map_map, List.map_map] at h2
    exact h2.symm
