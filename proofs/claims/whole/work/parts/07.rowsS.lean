/-! the class's worlds: the picture; a survey with its picture -/
theorem seg_get {α : Type} {X Y : List α} {n j k : Nat} {F : Nat → α} (hX : X.length = k) (hj : j < n) : (X ++ ((List.range n).map F ++ Y))[k + j]? = some (F j) := by
  subst hX
  rw [List.getElem?_append_right (by omega), List.getElem?_append_left (by simp; omega), List.getElem?_map, List.getElem?_range (by omega)]
  simp
theorem seg_set {α : Type} {X Y : List α} {n j k : Nat} {F F' : Nat → α} (hX : X.length = k) (hj : j < n) (h : ∀ i, i < n → i ≠ j → F' i = F i) : (X ++ ((List.range n).map F ++ Y)).set (k + j) (F' j) = X ++ ((List.range n).map F' ++ Y) := by
  subst hX
  apply List.ext_getElem?
  intro i
  by_cases hi : i = X.length + j
  · subst hi
    rw [List.getElem?_set_self (by simp; omega), seg_get rfl hj]
  · rw [List.getElem?_set_ne (Ne.symm hi)]
    simp only [List.getElem?_append, List.length_map, List.length_range, List.getElem?_map]
    by_cases h1 : i < X.length
    · rw [if_pos h1, if_pos h1]
    · rw [if_neg h1, if_neg h1]
      by_cases h2 : i - X.length < n
      · rw [if_pos h2, if_pos h2, List.getElem?_range h2]
        show some _ = some _
        rw [h (i - X.length) h2 (by omega)]
      · rw [if_neg h2, if_neg h2]
theorem set_same {α : Type} {ws : List α} {i : Nat} {q : α} (h : ws[i]? = some q) : ws.set i q = ws := by
  apply List.ext_getElem?
  intro k
  by_cases hk : k = i
  · subst hk
    rw [List.getElem?_set_self (List.getElem?_eq_some_iff.mp h).1, h]
  · rw [List.getElem?_set_ne (Ne.symm hk)]
theorem eqP {G : va_G} {w w' : va_W} {H : Heap} (h : w = w') (hP : VP G w H) : VP G w' H := h ▸ hP
theorem eqD {A : Nat → Prop} {w w' : va_W} (h : w = w') (hD : va_D A w) : va_D A w' := h ▸ hD
theorem eq2 {w w' : va_W} {a b : Nat} {x y : Nat × va_E} (h : w.set a x = w') (h2 : w'[b]? = some y) : (w.set a x).set b y = w' := by rw [h, set_same h2]
theorem eq2s {w : va_W} {a b : Nat} {x y : Nat × va_E} (h1 : w[a]? = some x) (h2 : w[b]? = some y) : (w.set a x).set b y = w := by rw [set_same h1, set_same h2]
theorem l1 {α : Type} {a a' : α} (h : a = a') : [a] = [a'] := by rw [h]
theorem l2 {α : Type} {a a' b b' : α} (h : a = a') (h2 : b = b') : [a, b] = [a', b'] := by rw [h, h2]
theorem nd1 {a : Nat} : va_nd [a] = true := by simp [va_nd]
theorem nd2 {a b : Nat} (h : a ≠ b) : va_nd [a, b] = true := by simp [va_nd, h]
section ROWS2
variable {p : Program} {l : Launch} {e : Env} {R : Room} {s : State} {m : MethodId} {args : Array Value} {below : List Frame} {meth : Method} {c : Code} {H : Heap} {locs : List Loc} {Q : State → Prop}
variable {cc : ByteArray} {pc nL : Nat} {ls : Array Slot} {rest : List Value} {G : va_G} {kc : Nat → ClassId} {A : Nat → Prop} {a : Nat} {ws : va_W} {β : Type} {r : β}
/-- the row of findings -/
theorem r_aldq (hexec : p.tables.exec = Jvm.exec) (hb : c.code = cc) (hK : VK G kc s) (hP : VP G ws H) (q0 : Nat) {n : Nat} {fa f : Nat → Nat} (ha : ws[q0]? = some (a, .inl (kc 3, n, .inr (.inr (.inr (.inr (fun k => some (fa (f k))))))))) {i : Int32} {k : Nat → Option β} (hdg : decode cc pc = .ok (.aaload, 1)) (h : rdn f n i k = some r)
    (kk : ∀ x : Nat, k x = some r → WW p l e R s m args below meth c Q H locs (pc + 1) ls (.ref (fa x) :: rest)) : WW p l e R s m args below meth c Q H locs pc ls (.int i :: .ref a :: rest) := by
  unfold rdn at h
  by_cases hi : i < 0 ∨ n ≤ i.toNatClampNeg
  · rw [if_pos hi] at h; cases h
  · rw [if_neg hi] at h
    exact va_aldq hexec hb hK hP q0 3 ha rfl hi hdg (kk _ h)
/-- the rows that are left, by their shift -/
theorem r_aldl (hexec : p.tables.exec = Jvm.exec) (hb : c.code = cc) (hK : VK G kc s) (hP : VP G ws H) (q0 : Nat) {n : Nat} {la : Nat → Nat} (ha : ws[q0]? = some (a, .inl (kc 4, n, .inr (.inr (.inr (.inr (fun k => some (la k)))))))) {i : Int32} {k : Nat → Option β} (hdg : decode cc pc = .ok (.aaload, 1)) (h : rdn (fun k => k) n i k = some r)
    (kk : ∀ x : Nat, k x = some r → WW p l e R s m args below meth c Q H locs (pc + 1) ls (.ref (la x) :: rest)) : WW p l e R s m args below meth c Q H locs pc ls (.int i :: .ref a :: rest) := by
  unfold rdn at h
  by_cases hi : i < 0 ∨ n ≤ i.toNatClampNeg
  · rw [if_pos hi] at h; cases h
  · rw [if_neg hi] at h
    have hlt : i.toNatClampNeg < n := Nat.not_le.mp fun q => hi (Or.inr q)
    exact W.aald (v := .ref (la i.toNatClampNeg)) (ty := .array .int) hexec hb (hP q0 _ ha) ((hK.2 4 _ rfl).1 n (fun j => va_rf (some (la j)))) rfl (fun q => by cases q) (by show ¬ (i < 0 ∨ (arrV _ _ _).slots.size ≤ _); rw [arrV_size]; exact hi) (by show (arrV _ _ _).slots[_]? = _; rw [arrV_read _ _ hlt]; rfl) rfl rfl hdg (kk _ h)
theorem r_astq (hexec : p.tables.exec = Jvm.exec) (hb : c.code = cc) (hK : VK G kc s) (hP : VP G ws H) (hD : va_D A ws) (hS : va_S A s.heap H locs) (q0 qk : Nat) {n v : Nat} {fa f : Nat → Nat} {vs : List Value} (ha : ws[q0]? = some (a, .inl (kc 3, n, .inr (.inr (.inr (.inr (fun k => some (fa (f k))))))))) (hv : ws[qk]? = some (fa v, .inr (0, vs))) {i : Int32} {k : (Nat → Nat) → Option β} (hdg : decode cc pc = .ok (.aastore, 1)) (h : wrn f n i v k = some r)
    (kk : ∀ (g : Nat → Nat) (H1 : Heap) (locs1 : List Loc), VP G (ws.set q0 (a, .inl (kc 3, n, .inr (.inr (.inr (.inr (fun k => some (fa (g k))))))))) H1 → va_D A (ws.set q0 (a, .inl (kc 3, n, .inr (.inr (.inr (.inr (fun k => some (fa (g k))))))))) → va_S A s.heap H1 locs1 → k g = some r → WW p l e R s m args below meth c Q H1 locs1 (pc + 1) ls rest) : WW p l e R s m args below meth c Q H locs pc ls (.ref (fa v) :: .int i :: .ref a :: rest) := by
  unfold wrn at h
  by_cases hi : i < 0 ∨ n ≤ i.toNatClampNeg
  · rw [if_pos hi] at h; cases h
  · rw [if_neg hi] at h
    have e1 : (va_up (fun k => some (fa (f k))) i.toNatClampNeg (some (fa v))) = (fun k => some (fa ((va_up f i.toNatClampNeg v) k))) := by
      funext q
      by_cases hq : q = i.toNatClampNeg
      · subst hq; simp [va_up]
      · simp [va_up, hq]
    exact va_astq (r := (RX0, TX0, 9)) hexec hb hK hP hD hS q0 3 qk 0 ha rfl hv rfl hi hdg (fun H1 l1 h1 h2 h3 => kk _ H1 l1 (by rw [e1] at h1; exact h1) (by rw [e1] at h2; exact h2) h3 h)
end ROWS2
def cpa {β : Type} (f g : Nat → Int32) (n0 n1 : Nat) (sp dp n : Int32) (k : (Nat → Int32) → Option β) : Option β := if sp < 0 ∨ dp < 0 ∨ n < 0 ∨ n0 < sp.toNatClampNeg + n.toNatClampNeg ∨ n1 < dp.toNatClampNeg + n.toNatClampNeg then none else k (va_cpy f g sp.toNatClampNeg dp.toNatClampNeg n.toNatClampNeg)
theorem ms_max : Cond.static Lib.Math.max.name ∈ gwl := gw_t (List.mem_of_getElem? (i := 323) (by decide +kernel)) rfl
theorem ms_min : Cond.static Lib.Math.min.name ∈ gwl := gw_t (List.mem_of_getElem? (i := 320) (by decide +kernel)) rfl
theorem ms_abs : Cond.static Lib.Math.abs.name ∈ gwl := gw_t (List.mem_of_getElem? (i := 412) (by decide +kernel)) rfl
theorem ms_init : Cond.initialized "java/lang/Math" ∈ gwl := gw_t (List.mem_of_getElem? (i := 9) (by decide +kernel)) rfl
theorem mc_max : Cond.code Lib.Math.max.name Lib.Math.max.code 2 (some .int) ∈ gwl := gw_t (List.mem_of_getElem? (i := 324) (by decide +kernel)) rfl
theorem mc_min : Cond.code Lib.Math.min.name Lib.Math.min.code 2 (some .int) ∈ gwl := gw_t (List.mem_of_getElem? (i := 321) (by decide +kernel)) rfl
theorem mc_abs : Cond.code Lib.Math.abs.name Lib.Math.abs.code 1 (some .int) ∈ gwl := gw_t (List.mem_of_getElem? (i := 413) (by decide +kernel)) rfl
theorem cpn : Cond.native arraycopyName ∈ gwl := gw_t (List.mem_of_getElem? (i := 335) (by decide +kernel)) rfl
theorem cps : Cond.static arraycopyName ∈ gwl := gw_t (List.mem_of_getElem? (i := 334) (by decide +kernel)) rfl
theorem cpi : Cond.initialized "java/lang/System" ∈ gwl := gw_t (List.mem_of_getElem? (i := 10) (by decide +kernel)) rfl
section ROWS3
variable {p : Program} {l : Launch} {e : Env} {R : Room} {s : State} {m : MethodId} {args : Array Value} {below : List Frame} {meth : Method} {c : Code} {H : Heap} {locs : List Loc} {Q : State → Prop}
variable {cc : ByteArray} {pc nL : Nat} {ls : Array Slot} {rest : List Value} {G : va_G} {kc : Nat → ClassId} {A : Nat → Prop} {a : Nat} {ws : va_W} {β : Type} {r : β}
theorem r_copy {own : String} {index : Nat} (S : CallFix p m c cc nL s args gwl own) (hls : ls.size = nL) (hlink : Cond.methodLink own index arraycopyName ∈ gwl) (hK : VK G kc s) (hP : VP G ws H) (hD : va_D A ws) (hS : va_S A s.heap H locs) (q0 q1 : Nat) {a0 n0 n1 : Nat} {f g : Nat → Int32} (ha0 : ws[q0]? = some (a0, .inl (kc 0, n0, .inl f))) (ha1 : ws[q1]? = some (a, .inl (kc 0, n1, .inl g))) {sp dp n : Int32} {k : (Nat → Int32) → Option β}
    (hframes : 1 ≤ R.frames) (hlocals : (rest.map fun v => v.category).sum + 18 ≤ R.locals) (hdg : decode cc pc = .ok (.invokestatic index, 3)) (h : cpa f g n0 n1 sp dp n k = some r)
    (kk : ∀ (g2 : Nat → Int32) (H1 : Heap) (locs1 : List Loc), VP G (ws.set q1 (a, .inl (kc 0, n1, .inl g2))) H1 → va_D A (ws.set q1 (a, .inl (kc 0, n1, .inl g2))) → va_S A s.heap H1 locs1 → k g2 = some r → WW p l e R s m args below meth c Q H1 locs1 (pc + 3) ls rest) : WW p l e R s m args below meth c Q H locs pc ls (.int n :: .int dp :: .ref a :: .int sp :: .ref a0 :: rest) := by
  unfold cpa at h
  by_cases hi : sp < 0 ∨ dp < 0 ∨ n < 0 ∨ n0 < sp.toNatClampNeg + n.toNatClampNeg ∨ n1 < dp.toNatClampNeg + n.toNatClampNeg
  · rw [if_pos hi] at h; cases h
  · rw [if_neg hi] at h
    obtain ⟨hx, hb, hml, hown, hts⟩ := S
    exact va_copyi hx hb (hml.trans hls.symm) hown (hts _ hlink) (hts _ cpn) (hts _ cps) (hts _ cpi) hK hP hD hS q0 q1 0 0 ha0 ha1 rfl rfl rfl (fun q => hi (Or.inl q)) (fun q => hi (Or.inr (Or.inl q))) (fun q => hi (Or.inr (Or.inr (Or.inl q)))) (Nat.not_lt.mp fun q => hi (Or.inr (Or.inr (Or.inr (Or.inl q))))) (Nat.not_lt.mp fun q => hi (Or.inr (Or.inr (Or.inr (Or.inr q))))) (fun _ _ => rfl) hframes hlocals hdg (fun H1 l1 h1 h2 h3 => kk _ H1 l1 h1 h2 h3 h)
end ROWS3
