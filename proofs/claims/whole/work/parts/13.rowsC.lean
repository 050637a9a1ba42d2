/-! the whole class: an object, its picture, two surveys; and the class's three static rows -/
theorem vaD_apart {A : Nat → Prop} {a b : va_W} (hD : va_D A (a ++ b)) {x y : Nat × va_E} (hx : x ∈ a) (hy : y ∈ b) : x.1 ≠ y.1 := by
  intro e
  obtain ⟨i, hi⟩ := List.getElem?_of_mem hx
  obtain ⟨j, hj⟩ := List.getElem?_of_mem hy
  have hl := (List.getElem?_eq_some_iff.mp hi).1
  have h := hD.1 i (a.length + j) x y (by rw [List.getElem?_append_left hl]; exact hi) (by rw [List.getElem?_append_right (by omega)]; simpa using hj) e
  omega
theorem vp_of {D : va_G} {cl : List vw_C} {ws : va_W} {H : Heap} (h : ∀ q ∈ ws, va_at D cl q H) : va_P D cl ws H := fun k q hk => h q (List.mem_of_getElem? hk)
theorem vp_at {D : va_G} {cl : List vw_C} {ws : va_W} {H : Heap} (h : va_P D cl ws H) {q : Nat × va_E} (hq : q ∈ ws) : va_at D cl q H := by
  obtain ⟨k, hk⟩ := List.getElem?_of_mem hq
  exact h k q hk
theorem vp_keep {D : va_G} {cl : List vw_C} {wc : va_W} {H H1 : Heap} (hk : ∀ q : Nat, q < H.size → ¬ va_A wc H.size q → H1[q]? = H[q]?) {x : Nat × va_E} (hx : va_at D cl x H) (ha : ∀ y ∈ wc, x.1 ≠ y.1) : va_at D cl x H1 := by
  refine hx.kept (hk x.1 hx.lt ?_)
  intro h
  rcases h with ⟨j, e, hj⟩ | h
  · exact ha (x.1, e) (List.mem_of_getElem? hj) rfl
  · have := hx.lt
    omega
theorem in_seg {A0 : Nat → Prop} {D : va_G} {cl : List vw_C} {X wc Y w1 : va_W} {H H1 : Heap} (hP : va_P D cl (X ++ (wc ++ Y)) H) (hD : va_D A0 (X ++ (wc ++ Y))) (ha : w1.map Prod.fst = wc.map Prod.fst)
    (hk : ∀ q : Nat, q < H.size → ¬ va_A wc H.size q → H1[q]? = H[q]?) (hP1 : va_P D cl w1 H1) : va_P D cl (X ++ (w1 ++ Y)) H1 ∧ va_D A0 (X ++ (w1 ++ Y)) := by
  have hD2 : va_D A0 (wc ++ Y) := by
    refine ⟨fun i j x y hi hj e => ?_, fun k q h => ?_⟩
    · have h := hD.1 (X.length + i) (X.length + j) x y (by rw [List.getElem?_append_right (by omega)]; simpa using hi) (by rw [List.getElem?_append_right (by omega)]; simpa using hj) e
      omega
    · exact hD.2 (X.length + k) q (by rw [List.getElem?_append_right (by omega)]; simpa using h)
  refine ⟨vp_of fun q hq => ?_, vaD_fst (by simp [ha]) hD⟩
  rcases List.mem_append.mp hq with h | h
  · exact vp_keep hk (vp_at hP (List.mem_append_left _ h)) (fun y hy => vaD_apart hD h (List.mem_append_left _ hy))
  · rcases List.mem_append.mp h with h | h
    · exact vp_at hP1 h
    · exact vp_keep hk (vp_at hP (List.mem_append_right _ (List.mem_append_right _ h))) (fun y hy => (vaD_apart hD2 hy h).symm)
theorem vaD_tail {A : Nat → Prop} {X Y : va_W} (hD : va_D A (X ++ Y)) : va_D A Y := by
  refine ⟨fun i j x y hi hj e => ?_, fun k q h => ?_⟩
  · have h := hD.1 (X.length + i) (X.length + j) x y (by rw [List.getElem?_append_right (by omega)]; simpa using hi) (by rw [List.getElem?_append_right (by omega)]; simpa using hj) e
    omega
  · exact hD.2 (X.length + k) q (by rw [List.getElem?_append_right (by omega)]; simpa using h)
theorem in_two {A0 : Nat → Prop} {D : va_G} {cl : List vw_C} {X P N O P1 O1 : va_W} {H H1 : Heap} (hP : va_P D cl (X ++ (P ++ (N ++ O))) H) (hD : va_D A0 (X ++ (P ++ (N ++ O)))) (ha : P1.map Prod.fst = P.map Prod.fst) (hb : O1.map Prod.fst = O.map Prod.fst)
    (hk : ∀ q : Nat, q < H.size → ¬ va_A (P ++ O) H.size q → H1[q]? = H[q]?) (hP1 : va_P D cl (P1 ++ O1) H1) : va_P D cl (X ++ (P1 ++ (N ++ O1))) H1 ∧ va_D A0 (X ++ (P1 ++ (N ++ O1))) := by
  have hD2 := vaD_tail hD
  have hD3 := vaD_tail hD2
  refine ⟨vp_of fun q hq => ?_, vaD_fst (by simp [ha, hb]) hD⟩
  rcases List.mem_append.mp hq with h | h
  · refine vp_keep hk (vp_at hP (List.mem_append_left _ h)) (fun y hy => vaD_apart hD h ?_)
    rcases List.mem_append.mp hy with hy | hy
    · exact List.mem_append_left _ hy
    · exact List.mem_append_right _ (List.mem_append_right _ hy)
  · rcases List.mem_append.mp h with h | h
    · exact vp_at hP1 (List.mem_append_left _ h)
    · rcases List.mem_append.mp h with h | h
      · refine vp_keep hk (vp_at hP (List.mem_append_right _ (List.mem_append_right _ (List.mem_append_left _ h)))) (fun y hy => ?_)
        rcases List.mem_append.mp hy with hy | hy
        · exact (vaD_apart hD2 hy (List.mem_append_left _ h)).symm
        · exact vaD_apart hD3 h hy
      · exact vp_at hP1 (List.mem_append_right _ h)
theorem vaD_two {A : Nat → Prop} {X P N O : va_W} (hD : va_D A (X ++ (P ++ (N ++ O)))) : va_D A (P ++ O) := by
  have hD2 := vaD_tail hD
  have hD3 := vaD_tail hD2
  have hD4 := vaD_tail hD3
  refine va_D.app ?_ hD4 (fun i j x y hx hy => vaD_apart hD2 (List.mem_of_getElem? hx) (List.mem_append_right _ (List.mem_of_getElem? hy)))
  refine ⟨fun i j x y hi hj e => ?_, fun k q h => ?_⟩
  · exact hD2.1 i j x y (by rw [List.getElem?_append_left (List.getElem?_eq_some_iff.mp hi).1]; exact hi) (by rw [List.getElem?_append_left (List.getElem?_eq_some_iff.mp hj).1]; exact hj) e
  · exact hD2.2 k q (by rw [List.getElem?_append_left (List.getElem?_eq_some_iff.mp h).1]; exact h)
theorem vaD_seg {A : Nat → Prop} {X wc Y : va_W} (hD : va_D A (X ++ (wc ++ Y))) : va_D A wc := by
  have hD2 := vaD_tail hD
  refine ⟨fun i j x y hi hj e => ?_, fun k q h => ?_⟩
  · exact hD2.1 i j x y (by rw [List.getElem?_append_left (List.getElem?_eq_some_iff.mp hi).1]; exact hi) (by rw [List.getElem?_append_left (List.getElem?_eq_some_iff.mp hj).1]; exact hj) e
  · exact hD2.2 k q (by rw [List.getElem?_append_left (List.getElem?_eq_some_iff.mp h).1]; exact h)
/-! the static rows -/
def lowS : Nat → Int32 := fun k => match k with
  | 0 => 2
  | 1 => 1
  | 2 => 0
  | 3 => 0
  | 4 => 1
  | 5 => 2
  | 6 => 1
  | _ => 0
def highS : Nat → Int32 := fun k => match k with
  | 0 => 4
  | 1 => 20
  | 2 => 1
  | 3 => 99
  | 4 => 15
  | 5 => 20
  | 6 => 99
  | _ => 30
def firstS : Nat → Int32 := fun k => match k with
  | 0 => 3
  | 1 => 1
  | 2 => 0
  | 3 => 0
  | 4 => 3
  | 5 => 8
  | 6 => 1
  | _ => 0
def STA (n : String) (f : Nat → Int32) (z0 : Nat) (U : State) (H : Heap) : Prop := ∃ t : Nat, va_Z RX7 n "[I" (.ref t) (fun q : Nat => z0 ≤ q) U H ∧ va_T .int t 8 (fun j => .int (f j)) (fun q : Nat => z0 ≤ q) U H
def SZ (z0 : Nat) (U : State) (H : Heap) : Prop := STA "LOWEST_SETTING" lowS z0 U H ∧ STA "HIGHEST_SETTING" highS z0 U H ∧ STA "FIRST_SETTING" firstS z0 U H
theorem STA.go {n : String} {f : Nat → Int32} {z0 : Nat} {s U : State} {H H1 : Heap} (h : STA n f z0 s H) (hk : ∀ a : Nat, a < H.size → ¬ z0 ≤ a → H1[a]? = H[a]?) (hvm : s.vm.Alike U.vm) : STA n f z0 U H1 := by
  obtain ⟨t, h1, h2⟩ := h
  exact ⟨t, (h1.moved hvm).kept hk, (h2.moved hvm).kept hk⟩
theorem SZ.go {z0 : Nat} {s U : State} {H H1 : Heap} (h : SZ z0 s H) (hk : ∀ a : Nat, a < H.size → ¬ z0 ≤ a → H1[a]? = H[a]?) (hvm : s.vm.Alike U.vm) : SZ z0 U H1 := ⟨h.1.go hk hvm, h.2.1.go hk hvm, h.2.2.go hk hvm⟩
def Cinz (G : va_G) (kc : Nat → ClassId) (z0 : Nat) (w0 : va_W) (sz : Nat) : State → Prop := fun U => Cin G kc w0 sz U ∧ z0 ≤ sz ∧ va_D (fun q : Nat => z0 ≤ q) w0 ∧ SZ z0 U U.heap
def CZi (l : Launch) (G : va_G) (kc : Nat → ClassId) (z0 : Nat) (y : MethodName) (b : ByteArray) (n : Nat) (r : Option FieldType) (rm : Room) (av : List Value) (w0 w1 : va_W) (x : Int32) : Prop := ∀ sz, Met l y (wm y b n r) rm (va_Pc av (Cinz G kc z0 w0 sz)) (Qi G kc (va_A w0 sz) w1 x) 0 0 (va_A w0 sz)
theorem CZi.mk {l : Launch} {G : va_G} {kc : Nat → ClassId} {z0 : Nat} {y : MethodName} {b : ByteArray} {n : Nat} {r : Option FieldType} {f k : Nat} {av : List Value} {w0 w1 : va_W} {x : Int32} (hy : plainName y.cls = true) (hn : (lg_sl av).length ≤ n)
    (body : ∀ (p : Program) (e : Env) (s : State) (m : MethodId) (args : Array Value) (below : List Frame) (meth : Method) (c : Code) (A : Nat → Prop) (ls : Array Slot) (Q : State → Prop), SZ z0 s s.heap → (∀ q, A q → z0 ≤ q) → z0 ≤ s.heap.size → Q = EQi G kc below s args A w1 x → CallFix p m c b n s args gwl y.cls → meth.sig.returnType = r → meth.locks = false → NW s → (∀ q, s.heap.size ≤ q → A q) → VK G kc s → lv_has ls n (lv_args 0 av) → VP G w0 s.heap → va_D A w0 → va_S A s.heap s.heap [] → WW p l e (rmq f k) s m args below meth c Q s.heap [] 0 ls []) : CZi l G kc z0 y b n r (rmq f k) av w0 w1 x := by
  intro sz
  refine Met.ofW (cc := b) (maxL := n) (ret := r) hy rfl ?_
  intro p e s m args below meth c s₁ B hml hv
  obtain ⟨rfl, ⟨hsz, hP, hK, hD0, hN⟩, hz, hDz, hZ⟩ := hv
  have hts := atoms_spec (ws := wm y b n r) B.pre
  subst hsz
  have hD := hD0.self (sz := s.heap.size)
  have hl := lv_entry av (n := n) hn
  rw [lg_entry_eq]
  refine body p e s m _ below meth c _ _ _ hZ (fun q h => ?_) hz rfl ⟨B.exec, B.bytes, hml, findClass_of_methodNamed B.named, fun w hw => hts w (List.mem_cons_of_mem _ hw)⟩ B.returns B.notSynchronized hN (fun q h => Or.inr h) hK hl hP hD va_S.rf
  rcases h with ⟨k, e, h⟩ | h
  · exact hDz.2 k (q, e) h
  · omega
section ROWS4
variable {p : Program} {l : Launch} {e : Env} {R : Room} {s : State} {m : MethodId} {args : Array Value} {below : List Frame} {meth : Method} {c : Code} {H : Heap} {locs : List Loc} {Q : State → Prop}
variable {cc : ByteArray} {pc nL : Nat} {ls : Array Slot} {rest st0 : List Value} {G : va_G} {kc : Nat → ClassId} {A : Nat → Prop} {a z0 : Nat} {ws wc w1 X Y P N O P1 O1 : va_W} {β : Type} {res : β}
variable {y : MethodName} {b : ByteArray} {n idx k f g : Nat} {r : Option FieldType} {own : String} {As : List Value} {x : Int32}
theorem r_gets {nm : String} {t : Nat} (S : CallFix p m c cc nL s args gwl RX7) (hZ : va_Z RX7 nm "[I" (.ref t) (fun q : Nat => z0 ≤ q) s s.heap) (hAz : ∀ q, A q → z0 ≤ q) (hS : va_S A s.heap H locs) (hl : Cond.fieldLink RX7 idx RX7 nm "[I" ∈ gwl) (hdg : decode cc pc = .ok (.getstatic idx, 3)) (kk : WW p l e R s m args below meth c Q H locs (pc + 3) ls (.ref t :: rest)) : WW p l e R s m args below meth c Q H locs pc ls rest :=
  va_gets S.1 S.2.1 (hZ.narrow hAz) hS S.2.2.2.1 (S.2.2.2.2 _ hl) (fun _ h => h) hdg kk
theorem r_sti {t : Nat} {F : Nat → Int32} (hexec : p.tables.exec = Jvm.exec) (hb : c.code = cc) (hT : va_T .int t 8 (fun j => .int (F j)) (fun q : Nat => z0 ≤ q) s s.heap) (hAz : ∀ q, A q → z0 ≤ q) (hS : va_S A s.heap H locs) {i : Int32} {k : Int32 → Option β} (hdg : decode cc pc = .ok (.iaload, 1)) (h : rd F 8 i k = some res) (kk : ∀ x : Int32, k x = some res → WW p l e R s m args below meth c Q H locs (pc + 1) ls (.int x :: rest)) : WW p l e R s m args below meth c Q H locs pc ls (.int i :: .ref t :: rest) := by
  unfold rd at h
  by_cases hi : i < 0 ∨ 8 ≤ i.toNatClampNeg
  · rw [if_pos hi] at h; cases h
  · rw [if_neg hi] at h
    exact va_ti hexec hb (hT.narrow hAz) hS hi rfl hdg (kk _ h)
theorem blind_z {av : List Value} {sz : Nat} : FrameBlind (va_Pc av (Cinz G kc z0 wc sz)) := by
  intro a U g mk q
  obtain ⟨q0, ⟨q1, qP, qK, qD, qN⟩, q2, q3, q4⟩ := q
  exact ⟨q0, ⟨q1, qP, va_K.moved (u := U) (U := U.calling g mk a) (Vm.Alike.refl U.vm) qK, qD, qN.call⟩, q2, q3, q4.go (s := U) (fun _ _ _ => rfl) (Vm.Alike.refl U.vm)⟩
/-- a static method of the class itself that reads the static rows, over no cell -/
theorem cz_Si (S : CallFix p m c cc nL s args gwl own) (hN : NW s) (hZ : SZ z0 s s.heap) (hAz : ∀ q, A q → z0 ≤ q) (hz0 : z0 ≤ s.heap.size) (hB : CBS y b n r k) (hL : Cond.methodLink own idx y ∈ gwl) (hR : f + 1 ≤ R.frames ∧ 8 + (n + 11) + g ≤ R.locals) (hM : CZi l G kc z0 y b n r (rmq f g) As [] [] x) (hK : VK G kc s) (hP : VP G ws H) (hD : va_D A ws) (hS : va_S A s.heap H locs) (hA : ∀ q, s.heap.size ≤ q → A q)
    (hn : As.length = k) (hst : st0 = As.reverse ++ rest) (hcat : (rest.map fun v => v.category).sum ≤ 8) (hls : ls.size = nL) (hdg : decode cc pc = .ok (.invokestatic idx, 3))
    (kk : ∀ (H1 : Heap) (locs1 : List Loc), VP G ws H1 → va_D A ws → va_S A s.heap H1 locs1 → WW p l e R s m args below meth c Q H1 locs1 (pc + 3) ls (.int x :: rest)) : WW p l e R s m args below meth c Q H locs pc ls st0 := by
  have hDc := hD.sub (ws' := []) [] rfl rfl
  have hPc : VP G [] H := va_P.sub hP [] rfl
  exact go_i (As := As) (va_runS S (hM H.size) (w_S S hB hL hR) ⟨blind_z, fun U hU hW => ⟨rfl, pre_s hK hN hPc hDc hU hW, Nat.le_trans hz0 hS.1, ⟨fun i j p q h => by simp at h, fun k q h => by simp at h⟩, by rw [hU]; exact hZ.go (fun a h1 h2 => hS.2.1 a h1 (fun h => h2 (hAz a h))) hW.alike⟩⟩ rfl hn hls hst (lv_room hcat) hdg ⟨Nat.zero_le _, Nat.zero_le _⟩) hP hD hS hA [] rfl rfl kk
/-- a virtual call over a part of the caller's world that stands together -/
theorem cg_Vi (S : CallFix p m c cc nL s args gwl own) (hN : NW s) (hB : CBV y b n r k) (hL : Cond.methodLink own idx y ∈ gwl) (hR : f + 1 ≤ R.frames ∧ 8 + (n + 11) + g ≤ R.locals) (hM : CTi l G kc y b n r (rmq f g) (.ref a :: As) wc w1 x) (hK : VK G kc s) (hP : VP G (X ++ (wc ++ Y)) H) (hD : va_D A (X ++ (wc ++ Y))) (hS : va_S A s.heap H locs) (hA : ∀ q, s.heap.size ≤ q → A q) (ha : w1.map Prod.fst = wc.map Prod.fst)
    {q : vw_C} {ci : Nat} {fs : List Value} (q0 : Nat) (hc : vwCl[ci]? = some q) (hy : q.1 = y.cls) (he : wc[q0]? = some (a, .inr (ci, fs))) (hn : As.length = k) (hst : st0 = As.reverse ++ .ref a :: rest) (hcat : (rest.map fun v => v.category).sum ≤ 8) (hls : ls.size = nL) (hdg : decode cc pc = .ok (.invokevirtual idx, 3))
    (kk : ∀ (H1 : Heap) (locs1 : List Loc), VP G (X ++ (w1 ++ Y)) H1 → va_D A (X ++ (w1 ++ Y)) → va_S A s.heap H1 locs1 → WW p l e R s m args below meth c Q H1 locs1 (pc + 3) ls (.int x :: rest)) : WW p l e R s m args below meth c Q H locs pc ls st0 := by
  have hDc := vaD_seg hD
  have hPc : VP G wc H := vp_of fun q hq => vp_at hP (List.mem_append_right _ (List.mem_append_left _ hq))
  have hr := va_runV (cells := 0) (slots := 0) (locs := locs) (e := e) (below := below) (meth := meth) (g := F0 m pc ls st0) S (hM H.size) (w_V S hB hL hR) ⟨blind_s, recv hK hPc hc hy he, fun U hU hW => ⟨rfl, pre_s hK hN hPc hDc hU hW⟩⟩ rfl hn hls hst (lv_room hcat) hdg ⟨Nat.zero_le _, Nat.zero_le _⟩
  have hFc : ∀ q, va_A wc H.size q → A q := by
    intro q h
    rcases h with ⟨k, e, h⟩ | h
    · exact hDc.2 k (q, e) h
    · exact hA q (Nat.le_trans hS.1 h)
  refine va_calli hr hS (fun q _ h => hFc q h) hFc (fun r u t H1 locs1 ht hvm hw hB hz1 hk1 hS1 => ?_)
  obtain ⟨hP1, hK1, hD1⟩ := hB
  rw [ht] at hP1
  subst hw
  obtain ⟨hP2, hD2⟩ := in_seg hP hD ha hk1 hP1
  exact kk H1 locs1 hP2 hD2 hS1
theorem cg_Vv (S : CallFix p m c cc nL s args gwl own) (hN : NW s) (hB : CBV y b n r k) (hL : Cond.methodLink own idx y ∈ gwl) (hR : f + 1 ≤ R.frames ∧ 8 + (n + 11) + g ≤ R.locals) (hM : CTv l G kc y b n r (rmq f g) (.ref a :: As) wc w1) (hK : VK G kc s) (hP : VP G (X ++ (wc ++ Y)) H) (hD : va_D A (X ++ (wc ++ Y))) (hS : va_S A s.heap H locs) (hA : ∀ q, s.heap.size ≤ q → A q) (ha : w1.map Prod.fst = wc.map Prod.fst)
    {q : vw_C} {ci : Nat} {fs : List Value} (q0 : Nat) (hc : vwCl[ci]? = some q) (hy : q.1 = y.cls) (he : wc[q0]? = some (a, .inr (ci, fs))) (hn : As.length = k) (hst : st0 = As.reverse ++ .ref a :: rest) (hcat : (rest.map fun v => v.category).sum ≤ 8) (hls : ls.size = nL) (hdg : decode cc pc = .ok (.invokevirtual idx, 3))
    (kk : ∀ (H1 : Heap) (locs1 : List Loc), VP G (X ++ (w1 ++ Y)) H1 → va_D A (X ++ (w1 ++ Y)) → va_S A s.heap H1 locs1 → WW p l e R s m args below meth c Q H1 locs1 (pc + 3) ls rest) : WW p l e R s m args below meth c Q H locs pc ls st0 := by
  have hDc := vaD_seg hD
  have hPc : VP G wc H := vp_of fun q hq => vp_at hP (List.mem_append_right _ (List.mem_append_left _ hq))
  have hr := va_runV (cells := 0) (slots := 0) (locs := locs) (e := e) (below := below) (meth := meth) (g := F0 m pc ls st0) S (hM H.size) (w_V S hB hL hR) ⟨blind_s, recv hK hPc hc hy he, fun U hU hW => ⟨rfl, pre_s hK hN hPc hDc hU hW⟩⟩ rfl hn hls hst (lv_room hcat) hdg ⟨Nat.zero_le _, Nat.zero_le _⟩
  have hFc : ∀ q, va_A wc H.size q → A q := by
    intro q h
    rcases h with ⟨k, e, h⟩ | h
    · exact hDc.2 k (q, e) h
    · exact hA q (Nat.le_trans hS.1 h)
  refine va_callv hr hS (fun q _ h => hFc q h) hFc (fun u t H1 locs1 ht hvm hw hB hz1 hk1 hS1 => ?_)
  obtain ⟨hP1, hK1, hD1⟩ := hB
  rw [ht] at hP1
  obtain ⟨hP2, hD2⟩ := in_seg hP hD ha hk1 hP1
  exact kk H1 locs1 hP2 hD2 hS1
/-- a virtual call over two parts of the caller's world -/
theorem ch_Vi (S : CallFix p m c cc nL s args gwl own) (hN : NW s) (hB : CBV y b n r k) (hL : Cond.methodLink own idx y ∈ gwl) (hR : f + 1 ≤ R.frames ∧ 8 + (n + 11) + g ≤ R.locals) (hM : CTi l G kc y b n r (rmq f g) (.ref a :: As) (P ++ O) (P1 ++ O1) x) (hK : VK G kc s) (hP : VP G (X ++ (P ++ (N ++ O))) H) (hD : va_D A (X ++ (P ++ (N ++ O)))) (hS : va_S A s.heap H locs) (hA : ∀ q, s.heap.size ≤ q → A q) (ha : P1.map Prod.fst = P.map Prod.fst) (hb : O1.map Prod.fst = O.map Prod.fst)
    {q : vw_C} {ci : Nat} {fs : List Value} (q0 : Nat) (hc : vwCl[ci]? = some q) (hy : q.1 = y.cls) (he : (P ++ O)[q0]? = some (a, .inr (ci, fs))) (hn : As.length = k) (hst : st0 = As.reverse ++ .ref a :: rest) (hcat : (rest.map fun v => v.category).sum ≤ 8) (hls : ls.size = nL) (hdg : decode cc pc = .ok (.invokevirtual idx, 3))
    (kk : ∀ (H1 : Heap) (locs1 : List Loc), VP G (X ++ (P1 ++ (N ++ O1))) H1 → va_D A (X ++ (P1 ++ (N ++ O1))) → va_S A s.heap H1 locs1 → WW p l e R s m args below meth c Q H1 locs1 (pc + 3) ls (.int x :: rest)) : WW p l e R s m args below meth c Q H locs pc ls st0 := by
  have hDc := vaD_two hD
  have hPc : VP G (P ++ O) H := vp_of fun q hq => vp_at hP ((List.mem_append.mp hq).elim (fun h => List.mem_append_right _ (List.mem_append_left _ h)) (fun h => List.mem_append_right _ (List.mem_append_right _ (List.mem_append_right _ h))))
  have hr := va_runV (cells := 0) (slots := 0) (locs := locs) (e := e) (below := below) (meth := meth) (g := F0 m pc ls st0) S (hM H.size) (w_V S hB hL hR) ⟨blind_s, recv hK hPc hc hy he, fun U hU hW => ⟨rfl, pre_s hK hN hPc hDc hU hW⟩⟩ rfl hn hls hst (lv_room hcat) hdg ⟨Nat.zero_le _, Nat.zero_le _⟩
  have hFc : ∀ q, va_A (P ++ O) H.size q → A q := by
    intro q h
    rcases h with ⟨k, e, h⟩ | h
    · exact hDc.2 k (q, e) h
    · exact hA q (Nat.le_trans hS.1 h)
  refine va_calli hr hS (fun q _ h => hFc q h) hFc (fun r u t H1 locs1 ht hvm hw hB hz1 hk1 hS1 => ?_)
  obtain ⟨hP1, hK1, hD1⟩ := hB
  rw [ht] at hP1
  subst hw
  obtain ⟨hP2, hD2⟩ := in_two hP hD ha hb hk1 hP1
  exact kk H1 locs1 hP2 hD2 hS1
theorem ch_Vv (S : CallFix p m c cc nL s args gwl own) (hN : NW s) (hB : CBV y b n r k) (hL : Cond.methodLink own idx y ∈ gwl) (hR : f + 1 ≤ R.frames ∧ 8 + (n + 11) + g ≤ R.locals) (hM : CTv l G kc y b n r (rmq f g) (.ref a :: As) (P ++ O) (P1 ++ O1)) (hK : VK G kc s) (hP : VP G (X ++ (P ++ (N ++ O))) H) (hD : va_D A (X ++ (P ++ (N ++ O)))) (hS : va_S A s.heap H locs) (hA : ∀ q, s.heap.size ≤ q → A q) (ha : P1.map Prod.fst = P.map Prod.fst) (hb : O1.map Prod.fst = O.map Prod.fst)
    {q : vw_C} {ci : Nat} {fs : List Value} (q0 : Nat) (hc : vwCl[ci]? = some q) (hy : q.1 = y.cls) (he : (P ++ O)[q0]? = some (a, .inr (ci, fs))) (hn : As.length = k) (hst : st0 = As.reverse ++ .ref a :: rest) (hcat : (rest.map fun v => v.category).sum ≤ 8) (hls : ls.size = nL) (hdg : decode cc pc = .ok (.invokevirtual idx, 3))
    (kk : ∀ (H1 : Heap) (locs1 : List Loc), VP G (X ++ (P1 ++ (N ++ O1))) H1 → va_D A (X ++ (P1 ++ (N ++ O1))) → va_S A s.heap H1 locs1 → WW p l e R s m args below meth c Q H1 locs1 (pc + 3) ls rest) : WW p l e R s m args below meth c Q H locs pc ls st0 := by
  have hDc := vaD_two hD
  have hPc : VP G (P ++ O) H := vp_of fun q hq => vp_at hP ((List.mem_append.mp hq).elim (fun h => List.mem_append_right _ (List.mem_append_left _ h)) (fun h => List.mem_append_right _ (List.mem_append_right _ (List.mem_append_right _ h))))
  have hr := va_runV (cells := 0) (slots := 0) (locs := locs) (e := e) (below := below) (meth := meth) (g := F0 m pc ls st0) S (hM H.size) (w_V S hB hL hR) ⟨blind_s, recv hK hPc hc hy he, fun U hU hW => ⟨rfl, pre_s hK hN hPc hDc hU hW⟩⟩ rfl hn hls hst (lv_room hcat) hdg ⟨Nat.zero_le _, Nat.zero_le _⟩
  have hFc : ∀ q, va_A (P ++ O) H.size q → A q := by
    intro q h
    rcases h with ⟨k, e, h⟩ | h
    · exact hDc.2 k (q, e) h
    · exact hA q (Nat.le_trans hS.1 h)
  refine va_callv hr hS (fun q _ h => hFc q h) hFc (fun u t H1 locs1 ht hvm hw hB hz1 hk1 hS1 => ?_)
  obtain ⟨hP1, hK1, hD1⟩ := hB
  rw [ht] at hP1
  obtain ⟨hP2, hD2⟩ := in_two hP hD ha hb hk1 hP1
  exact kk H1 locs1 hP2 hD2 hS1
end ROWS4
