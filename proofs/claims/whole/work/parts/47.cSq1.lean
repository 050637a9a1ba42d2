/-! the class's squares: measures, numbers -/
theorem qG_rc {g st : Nat → Nat} {x y r c : Nat} (hc : c < st 0) : qG g st (16 * y + x) (st 0 * r + c) = g (16 * (y + r) + (x + c)) := by
  unfold qG
  rw [Nat.mul_add_div (by omega), Nat.mul_add_mod, Nat.div_eq_of_lt hc, Nat.mod_eq_of_lt hc]
  congr 1
  omega
theorem if_min {a b : Nat} (ha : a < 2147483648) (hb : b < 2147483648) : (if nI a < nI b then nI a else nI b) = nI (min b a) := by
  by_cases c : a < b
  · rw [if_pos (by rw [n_lt ha hb]; exact c)]; congr 1; omega
  · rw [if_neg (by rw [n_lt ha hb]; exact c)]; congr 1; omega
theorem if_max {a b : Nat} (ha : a < 2147483648) (hb : b < 2147483648) : (if nI b < nI a then nI a else nI b) = nI (max b a) := by
  by_cases c : b < a
  · rw [if_pos (by rw [n_lt hb ha]; exact c)]; congr 1; omega
  · rw [if_neg (by rw [n_lt hb ha]; exact c)]; congr 1; omega
theorem sd_lt {a b r c : Nat} (hr : r < a) (hc : c < a) (hb : b = a) : a * r + c < a * b := by
  subst hb
  have h : b * (r + 1) ≤ b * b := Nat.mul_le_mul_left b hr
  rw [Nat.mul_add] at h
  omega
theorem c_me24 {FU w h x y r : Nat} {g st : Nat → Nat} {cg : Nat → Int32} {k : Int32 → Int32 → Int32 → Option ((Nat → Int32) × (Nat → Int32) × (Nat → Int32) × Int32)} {P : ((Nat → Int32) × (Nat → Int32) × (Nat → Int32) × Int32) → Prop} (hG : RepG cg g) (hg : ∀ q, q < 256 → g q ≤ 99) (ho : OKs st) (hw : w ≤ 16) (hh : h ≤ 16) (hx : x + st 0 ≤ w) (hy : y + st 0 ≤ h) (hr : r < st 0) :
    ∀ (d c fuel : Nat), c + d = st 0 → d < fuel → (∀ z : Int32, Rt (k (nI (mnU (qG g st (16 * y + x)) (st 0 * (r + 1)))) (nI (mxU (qG g st (16 * y + x)) (st 0 * (r + 1)))) z) P) → Rt (f_X5_measure_L24 FU (nI x) (nI (y + r)) cg (nI w) (nI h) (nI (st 0)) k fuel (nI (mnU (qG g st (16 * y + x)) (st 0 * r + c))) (nI (mxU (qG g st (16 * y + x)) (st 0 * r + c))) (nI (x + c))) P := by
  have hs := ho.side
  have hp : OKp st (16 * y + x) := by unfold OKp; omega
  intro d
  induction d with
  | zero =>
    intro c fuel e1 e2 hk
    obtain ⟨f, rfl⟩ : ∃ f, fuel = f + 1 := ⟨fuel - 1, by omega⟩
    have ec : c = st 0 := by omega
    rw [f_X5_measure_L24, nI_add]
    refine rt_t (by rw [n_le (by omega) (by omega)]; omega) ?_
    rw [show st 0 * r + c = st 0 * (r + 1) by rw [Nat.mul_add, ec]; omega]
    exact hk _
  | succ d ih =>
    intro c fuel e1 e2 hk
    obtain ⟨f, rfl⟩ : ∃ f, fuel = f + 1 := ⟨fuel - 1, by omega⟩
    have hc : c < st 0 := by omega
    have hi : st 0 * r + c < qS st := sd_lt hr hc rfl
    have n1 := qG_99 ho hg hp hi
    have n2 := mnU_99 (qG g st (16 * y + x)) (st 0 * r + c)
    have n3 : mxU (qG g st (16 * y + x)) (st 0 * r + c) ≤ 99 := mxU_le _ _ _ (fun j hj => qG_99 ho hg hp (by omega))
    rw [f_X5_measure_L24, nI_add]
    refine rt_f (by rw [n_le (by omega) (by omega)]; omega) ?_
    rw [grey_ok hw hh (by omega) (by omega) hG, bd1_s, ← qG_rc (g := g) (st := st) (x := x) (y := y) (r := r) hc, if_min (by omega) (by omega), if_max (by omega) (by omega), nI_1, ← mnU_s, ← mxU_s]
    exact ih (c + 1) f (by omega) (by omega) hk
theorem c_me10 {w h x y : Nat} {g st : Nat → Nat} {cg : Nat → Int32} {k : Int32 → Int32 → Int32 → Option ((Nat → Int32) × (Nat → Int32) × (Nat → Int32) × Int32)} {P : ((Nat → Int32) × (Nat → Int32) × (Nat → Int32) × Int32) → Prop} (hG : RepG cg g) (hg : ∀ q, q < 256 → g q ≤ 99) (ho : OKs st) (hw : w ≤ 16) (hh : h ≤ 16) (hx : x + st 0 ≤ w) (hy : y + st 0 ≤ h) :
    ∀ (d r fuel : Nat), r + d = st 0 → d < fuel → (∀ z : Int32, Rt (k (nI (qMn g st (16 * y + x))) (nI (qMx g st (16 * y + x))) z) P) → Rt (f_X5_measure_L10 FU (nI x) (nI y) cg (nI w) (nI h) (nI (st 0)) k fuel (nI (mnU (qG g st (16 * y + x)) (st 0 * r))) (nI (mxU (qG g st (16 * y + x)) (st 0 * r))) (nI (y + r))) P := by
  have hs := ho.side
  intro d
  induction d with
  | zero =>
    intro r fuel e1 e2 hk
    obtain ⟨f, rfl⟩ : ∃ f, fuel = f + 1 := ⟨fuel - 1, by omega⟩
    have er : r = st 0 := by omega
    rw [f_X5_measure_L10, nI_add]
    refine rt_t (by rw [n_le (by omega) (by omega)]; omega) ?_
    rw [er]
    exact hk _
  | succ d ih =>
    intro r fuel e1 e2 hk
    obtain ⟨f, rfl⟩ : ∃ f, fuel = f + 1 := ⟨fuel - 1, by omega⟩
    rw [f_X5_measure_L10, nI_add]
    refine rt_f (by rw [n_le (by omega) (by omega)]; omega) ?_
    refine c_me24 hG hg ho hw hh hx hy (by omega) (st 0) 0 FU (by omega) (by unfold FU; omega) ?_
    intro z
    rw [nI_1]
    exact ih (r + 1) f (by omega) (by omega) hk
def qF (g st : Nat → Nat) (p : Nat) : Nat := if qMx g st p - qMn g st p ≤ st 3 then 1 else 0
theorem c_measure {w h x y : Nat} {g st : Nat → Nat} {cg c_least c_greatest c_role : Nat → Int32} {c_flats : Int32} (hG : RepG cg g) (hg : ∀ q, q < 256 → g q ≤ 99) (ho : OKs st) (hw : w ≤ 16) (hh : h ≤ 16) (hx : x + st 0 ≤ w) (hy : y + st 0 ≤ h) :
    f_X5_measure FU cg (nI w) (nI h) c_least c_greatest c_role (nI (st 0)) c_flats (nI x) (nI y) (nI (st 3)) = some (upd c_least (16 * y + x) (nI (qMn g st (16 * y + x))), upd c_greatest (16 * y + x) (nI (qMx g st (16 * y + x))), upd c_role (16 * y + x) (nI (qF g st (16 * y + x))), c_flats + nI (qF g st (16 * y + x))) := by
  have hs := ho.side
  have hf := ho.flat
  have hp : OKp st (16 * y + x) := by unfold OKp; omega
  have n2 : qMx g st (16 * y + x) ≤ 99 := qMx_99 ho hg hp
  have n3 : qMn g st (16 * y + x) ≤ qMx g st (16 * y + x) := qMn_Mx ho
  have t : Rt (f_X5_measure FU cg (nI w) (nI h) c_least c_greatest c_role (nI (st 0)) c_flats (nI x) (nI y) (nI (st 3))) (fun q => q = (upd c_least (16 * y + x) (nI (qMn g st (16 * y + x))), upd c_greatest (16 * y + x) (nI (qMx g st (16 * y + x))), upd c_role (16 * y + x) (nI (qF g st (16 * y + x))), c_flats + nI (qF g st (16 * y + x)))) := by
    unfold f_X5_measure
    refine c_me10 (w := w) (h := h) hG hg ho hw hh hx hy (st 0) 0 FU (by omega) (by unfold FU; omega) ?_
    intro z
    rw [p16, wr_ok (by omega) (by omega), wr_ok (by omega) (by omega)]
    have key : Rt (wr c_role 256 (nI (16 * y + x)) (nI (qF g st (16 * y + x))) (fun c_role_12 => rd c_role_12 256 (nI (16 * y + x)) (fun y_13 => jn (fun (t_14 : Int32) => some (upd c_least (16 * y + x) (nI (qMn g st (16 * y + x))), upd c_greatest (16 * y + x) (nI (qMx g st (16 * y + x))), c_role_12, (c_flats + t_14))) (fun j_15 => if y_13 = 1 then j_15 1 else j_15 0)))) (fun q => q = (upd c_least (16 * y + x) (nI (qMn g st (16 * y + x))), upd c_greatest (16 * y + x) (nI (qMx g st (16 * y + x))), upd c_role (16 * y + x) (nI (qF g st (16 * y + x))), c_flats + nI (qF g st (16 * y + x)))) := by
      rw [wr_ok (by omega) (by omega), rd_ok (by omega) (by omega)]
      have e1 : upd c_role (16 * y + x) (nI (qF g st (16 * y + x))) (16 * y + x) = nI (qF g st (16 * y + x)) := by simp [upd]
      rw [e1]
      unfold qF
      by_cases c : qMx g st (16 * y + x) - qMn g st (16 * y + x) ≤ st 3
      · rw [if_pos c]
        exact rt_jn (rt_t rfl (rt_some rfl))
      · rw [if_neg c]
        exact rt_jn (rt_f (by decide) (rt_some rfl))
    refine rt_j (fun j1 => Rt (j1 (nI (qF g st (16 * y + x)))) (fun q => q = (upd c_least (16 * y + x) (nI (qMn g st (16 * y + x))), upd c_greatest (16 * y + x) (nI (qMx g st (16 * y + x))), upd c_role (16 * y + x) (nI (qF g st (16 * y + x))), c_flats + nI (qF g st (16 * y + x))))) key (fun j1 hj1 => ?_)
    rw [pk_sub n3]
    refine rt_if (fun c => ?_) (fun c => ?_)
    · rw [n_lt (by omega) (by omega)] at c
      have e0 : qF g st (16 * y + x) = 0 := by unfold qF; rw [if_neg (by omega)]
      rw [e0] at hj1 ⊢
      exact hj1
    · rw [n_lt (by omega) (by omega)] at c
      have e0 : qF g st (16 * y + x) = 1 := by unfold qF; rw [if_pos (by omega)]
      rw [e0] at hj1 ⊢
      exact hj1
  obtain ⟨q, e, rfl⟩ := t
  exact e
/-! numbers, packed -/
def pkr (f : Nat → Nat) (a : Nat) : Nat → Nat
  | 0 => 0
  | d + 1 => pkr f a d * 128 + f (a + d)
theorem pkr_s (f : Nat → Nat) (a d : Nat) : pkr f a (d + 1) = pkr f a d * 128 + f (a + d) := rfl
theorem pkr_lt {f : Nat → Nat} {a : Nat} : ∀ (d : Nat), (∀ i, i < d → f (a + i) < 128) → pkr f a d < 128 ^ d
  | 0, _ => by simp [pkr]
  | d + 1, h => by
    have h1 := pkr_lt (f := f) (a := a) d (fun i hi => h i (by omega))
    have h2 := h d (by omega)
    rw [pkr_s, Nat.pow_succ]
    omega
theorem sh7 (n : Nat) {z : Nat} (hz : z < 128) : (lN n <<< ((7 : Int32).toInt64 &&& 63)) ||| (nI z).toInt64 = lN (n * 128 + z) := by
  rw [show (7 : Int32) = nI 7 from rfl, wb_shl n (by decide), nI_l (by omega), show n * 2 ^ 7 = 2 ^ 7 * n from Nat.mul_comm _ _, fb_or_sumL (k := 7) n hz, Nat.mul_comm]
/-- head and tail behind m numbers -/
def hdN (f : Nat → Nat) (m : Nat) : Nat := pkr f 0 (min m 9)
def tlN (f : Nat → Nat) (m : Nat) : Nat := pkr f 9 (m - 9)
theorem hd_lo {f : Nat → Nat} {m : Nat} (h : m < 9) : hdN f (m + 1) = hdN f m * 128 + f m ∧ tlN f (m + 1) = tlN f m := by
  unfold hdN tlN
  rw [show min (m + 1) 9 = m + 1 by omega, show min m 9 = m by omega, pkr_s, show 0 + m = m by omega, show m + 1 - 9 = 0 by omega, show m - 9 = 0 by omega]
  exact ⟨rfl, rfl⟩
theorem hd_hi {f : Nat → Nat} {m : Nat} (h : 9 ≤ m) : hdN f (m + 1) = hdN f m ∧ tlN f (m + 1) = tlN f m * 128 + f m := by
  unfold hdN tlN
  refine ⟨by rw [show min (m + 1) 9 = 9 by omega, show min m 9 = 9 by omega], ?_⟩
  rw [show m + 1 - 9 = (m - 9) + 1 by omega, pkr_s, show 9 + (m - 9) = m by omega]
theorem c_rn65 {FU w h x y r : Nat} {g st : Nat → Nat} {cg : Nat → Int32} {k : Int64 → Int64 → Int32 → Int32 → Option ((Nat → Int64) × (Nat → Int64))} {P : ((Nat → Int64) × (Nat → Int64)) → Prop} (hG : RepG cg g) (hg : ∀ q, q < 256 → g q ≤ 99) (ho : OKs st) (hw : w ≤ 16) (hh : h ≤ 16) (hx : x + st 0 ≤ w) (hy : y + st 0 ≤ h) (hr : r < st 0) :
    ∀ (d c fuel : Nat), c + d = st 0 → d < fuel → (∀ z : Int32, Rt (k (lN (hdN (qNu g st (16 * y + x)) (st 0 * (r + 1)))) (lN (tlN (qNu g st (16 * y + x)) (st 0 * (r + 1)))) (nI (st 0 * (r + 1))) z) P) → Rt (f_X5_readNumbers_L65 FU (nI x) (nI (if st 2 = 1 then qMn g st (16 * y + x) else 0)) (nI (st 1)) (nI (y + r)) cg (nI w) (nI h) (nI (st 0)) k fuel (lN (hdN (qNu g st (16 * y + x)) (st 0 * r + c))) (lN (tlN (qNu g st (16 * y + x)) (st 0 * r + c))) (nI (st 0 * r + c)) (nI (x + c))) P := by
  have hs := ho.side
  have h1s := ho.step
  have hq := ho.sq
  have hp : OKp st (16 * y + x) := by unfold OKp; omega
  intro d
  induction d with
  | zero =>
    intro c fuel e1 e2 hk
    obtain ⟨f, rfl⟩ : ∃ f, fuel = f + 1 := ⟨fuel - 1, by omega⟩
    have ec : c = st 0 := by omega
    rw [f_X5_readNumbers_L65, nI_add]
    refine rt_t (by rw [n_le (by omega) (by omega)]; omega) ?_
    rw [show st 0 * r + c = st 0 * (r + 1) by rw [Nat.mul_add, ec]; omega]
    exact hk _
  | succ d ih =>
    intro c fuel e1 e2 hk
    obtain ⟨f, rfl⟩ : ∃ f, fuel = f + 1 := ⟨fuel - 1, by omega⟩
    have hc : c < st 0 := by omega
    have hi : st 0 * r + c < qS st := sd_lt hr hc rfl
    have n1 := qG_99 ho hg hp hi
    have n2 := qNu_99 ho hg hp hi
    have n3 : qMn g st (16 * y + x) ≤ qG g st (16 * y + x) (st 0 * r + c) := qMn_G hi
    have n4 : (if st 2 = 1 then qMn g st (16 * y + x) else 0) ≤ qG g st (16 * y + x) (st 0 * r + c) := by split <;> omega
    rw [f_X5_readNumbers_L65, nI_add]
    refine rt_f (by rw [n_le (by omega) (by omega)]; omega) ?_
    rw [grey_ok hw hh (by omega) (by omega) hG, bd1_s, ← qG_rc (g := g) (st := st) (x := x) (y := y) (r := r) hc, pk_sub n4, dv_ok (by omega) (by omega) (by omega), nI_1, nI_1, show (qG g st (16 * y + x) (st 0 * r + c) - if st 2 = 1 then qMn g st (16 * y + x) else 0) / st 1 = qNu g st (16 * y + x) (st 0 * r + c) from rfl, sh7 _ (by omega), sh7 _ (by omega)]
    refine rt_if (fun q => ?_) (fun q => ?_)
    · rw [show (9 : Int32) = nI 9 from rfl, n_le (by omega) (by omega)] at q
      obtain ⟨a1, a2⟩ := hd_hi (f := qNu g st (16 * y + x)) q
      rw [← a2, ← a1]
      exact ih (c + 1) f (by omega) (by omega) hk
    · rw [show (9 : Int32) = nI 9 from rfl, n_le (by omega) (by omega)] at q
      obtain ⟨a1, a2⟩ := hd_lo (f := qNu g st (16 * y + x)) (m := st 0 * r + c) (by omega)
      rw [← a1, ← a2]
      exact ih (c + 1) f (by omega) (by omega) hk
theorem c_rn51 {w h x y : Nat} {g st : Nat → Nat} {cg : Nat → Int32} {k : Int64 → Int64 → Int32 → Int32 → Option ((Nat → Int64) × (Nat → Int64))} {P : ((Nat → Int64) × (Nat → Int64)) → Prop} (hG : RepG cg g) (hg : ∀ q, q < 256 → g q ≤ 99) (ho : OKs st) (hw : w ≤ 16) (hh : h ≤ 16) (hx : x + st 0 ≤ w) (hy : y + st 0 ≤ h) :
    ∀ (d r fuel : Nat), r + d = st 0 → d < fuel → (∀ z z2 : Int32, Rt (k (lN (hdN (qNu g st (16 * y + x)) (qS st))) (lN (tlN (qNu g st (16 * y + x)) (qS st))) z z2) P) → Rt (f_X5_readNumbers_L51 FU (nI x) (nI y) (nI (if st 2 = 1 then qMn g st (16 * y + x) else 0)) (nI (st 1)) cg (nI w) (nI h) (nI (st 0)) k fuel (lN (hdN (qNu g st (16 * y + x)) (st 0 * r))) (lN (tlN (qNu g st (16 * y + x)) (st 0 * r))) (nI (st 0 * r)) (nI (y + r))) P := by
  have hs := ho.side
  intro d
  induction d with
  | zero =>
    intro r fuel e1 e2 hk
    obtain ⟨f, rfl⟩ : ∃ f, fuel = f + 1 := ⟨fuel - 1, by omega⟩
    have er : r = st 0 := by omega
    rw [f_X5_readNumbers_L51, nI_add]
    refine rt_t (by rw [n_le (by omega) (by omega)]; omega) ?_
    rw [er]
    exact hk _ _
  | succ d ih =>
    intro r fuel e1 e2 hk
    obtain ⟨f, rfl⟩ : ∃ f, fuel = f + 1 := ⟨fuel - 1, by omega⟩
    rw [f_X5_readNumbers_L51, nI_add]
    refine rt_f (by rw [n_le (by omega) (by omega)]; omega) ?_
    refine c_rn65 hG hg ho hw hh hx hy (by omega) (st 0) 0 FU (by omega) (by unfold FU; omega) ?_
    intro z
    rw [nI_1]
    exact ih (r + 1) f (by omega) (by omega) hk
theorem c_readNumbers {w h x y : Nat} {g st : Nat → Nat} {cg cs c_least : Nat → Int32} {c_head c_tail : Nat → Int64} (hG : RepG cg g) (hS : RepS cs st) (hg : ∀ q, q < 256 → g q ≤ 99) (ho : OKs st) (hw : w ≤ 16) (hh : h ≤ 16) (hx : x + st 0 ≤ w) (hy : y + st 0 ≤ h) (hl : c_least (16 * y + x) = nI (qMn g st (16 * y + x))) :
    f_X5_readNumbers FU cg (nI w) (nI h) cs c_least c_head c_tail (nI (st 0)) (nI x) (nI y) = some (vp_updL c_head (16 * y + x) (lN (hdN (qNu g st (16 * y + x)) (qS st))), vp_updL c_tail (16 * y + x) (lN (tlN (qNu g st (16 * y + x)) (qS st)))) := by
  have hs := ho.side
  have h1s := ho.step
  have h2s := ho.man
  have t : Rt (f_X5_readNumbers FU cg (nI w) (nI h) cs c_least c_head c_tail (nI (st 0)) (nI x) (nI y)) (fun q => q = (vp_updL c_head (16 * y + x) (lN (hdN (qNu g st (16 * y + x)) (qS st))), vp_updL c_tail (16 * y + x) (lN (tlN (qNu g st (16 * y + x)) (qS st))))) := by
    unfold f_X5_readNumbers
    rw [show (2 : Int32) = nI 2 from rfl, rd_ok (by omega) (by omega), hS 2 (by omega), p16]
    refine rt_j (fun j1 => Rt (j1 (nI (if st 2 = 1 then qMn g st (16 * y + x) else 0))) (fun q => q = (vp_updL c_head (16 * y + x) (lN (hdN (qNu g st (16 * y + x)) (qS st))), vp_updL c_tail (16 * y + x) (lN (tlN (qNu g st (16 * y + x)) (qS st)))))) ?_ (fun j1 hj1 => ?_)
    · rw [show (1 : Int32) = nI 1 from rfl, rd_ok (by omega) (by omega), hS 1 (by omega), if_max (a := st 1) (b := 1) (by omega) (by omega), show max 1 (st 1) = st 1 by omega]
      refine c_rn51 (w := w) (h := h) hG hg ho hw hh hx hy (st 0) 0 FU (by omega) (by unfold FU; omega) ?_
      intro z z2
      rw [wrl_ok (by omega) (by omega), wrl_ok (by omega) (by omega)]
      exact rt_some rfl
    · refine rt_if (fun c => ?_) (fun c => ?_)
      · rw [show (1 : Int32) = nI 1 from rfl, n_inj (by omega) (by omega)] at c
        rw [if_pos c] at hj1
        rw [rd_ok (by omega) (by omega), hl]
        exact hj1
      · rw [show (1 : Int32) = nI 1 from rfl, n_inj (by omega) (by omega)] at c
        rw [if_neg c] at hj1
        exact hj1
  obtain ⟨q, e, rfl⟩ := t
  exact e
