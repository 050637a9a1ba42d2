/-! the reference's squares -/
theorem mnU_s (f : Nat → Nat) (n : Nat) : mnU f (n + 1) = min (mnU f n) (f n) := rfl
theorem mxU_s (f : Nat → Nat) (n : Nat) : mxU f (n + 1) = max (mxU f n) (f n) := rfl
theorem m_numbers {FU : Nat} {st : Nat → Nat} {cs : Nat → Int32} (hS : RepS cs st) : f_X8_numbers FU cs = some (nI (qS st)) := by
  unfold f_X8_numbers
  rw [show (0 : Int32) = nI 0 from rfl, rd_ok (by omega) (by omega), rd_ok (by omega) (by omega), hS 0 (by omega), pk_mul]
  rfl
theorem dv_ok {β : Type} {a d : Nat} {k : Int32 → Option β} (ha : a < 2147483648) (h0 : 0 < d) (hd : d < 2147483648) : dv (nI a) (nI d) k = k (nI (a / d)) := by
  unfold dv
  rw [if_neg (nI_ne0 h0 hd), pk_div ha h0 hd]
theorem rm_ok {β : Type} {a d : Nat} {k : Int32 → Option β} (ha : a < 2147483648) (h0 : 0 < d) (hd : d < 2147483648) : rm (nI a) (nI d) k = k (nI (a % d)) := by
  unfold rm
  rw [if_neg (nI_ne0 h0 hd), pk_rem ha h0 hd]
theorem m_greyIn {FU s p i : Nat} {g st : Nat → Nat} {cg cs csq : Nat → Int32} (hG : RepG cg g) (hS : RepS cs st) (ho : OKs st) (hs : s < 225) (hsq : csq s = nI p) (hp : OKp st p) (hi : i < qS st) : f_X8_greyIn FU cg cs csq (nI s) (nI i) = some (nI (qG g st p i)) := by
  have h1 := ho.side
  have h2 := ho.sq
  have hix := qG_ix ho hp hi
  unfold f_X8_greyIn
  rw [rd_ok hs (by omega), show (0 : Int32) = nI 0 from rfl, rd_ok (by omega) (by omega), hS 0 (by omega), dv_ok (by omega) (by omega) (by omega), rd_ok (by omega) (by omega), hS 0 (by omega), rm_ok (by omega) (by omega) (by omega), hsq, show (16 : Int32) = nI 16 from rfl, pk_mul, nI_add, nI_add, rd_ok hix (by omega), hG _ hix]
  rfl
theorem m_numberIn {FU s p i : Nat} {g st : Nat → Nat} {cg cs csq cd : Nat → Int32} (hG : RepG cg g) (hS : RepS cs st) (hg : ∀ q, q < 256 → g q ≤ 99) (ho : OKs st) (hs : s < 225) (hsq : csq s = nI p) (hd : cd s = nI (qMn g st p)) (hp : OKp st p) (hi : i < qS st) : f_X8_numberIn FU cg cs csq cd (nI s) (nI i) = some (nI (qNu g st p i)) := by
  have h1 := ho.step
  have h2 := ho.man
  have h3 := qG_99 ho hg hp hi
  have h4 : qMn g st p ≤ qG g st p i := qMn_G hi
  unfold f_X8_numberIn
  rw [m_greyIn hG hS ho hs hsq hp hi, bd1_s, show (2 : Int32) = nI 2 from rfl, rd_ok (by omega) (by omega), hS 2 (by omega)]
  have key : ∀ b : Nat, b ≤ qG g st p i → rd cs 8 1 (fun y_6 => dv (nI (qG g st p i) - nI b) y_6 (fun z_7 => some z_7)) = some (nI ((qG g st p i - b) / st 1)) := by
    intro b hb
    rw [show (1 : Int32) = nI 1 from rfl, rd_ok (by omega) (by omega), hS 1 (by omega), pk_sub hb, dv_ok (by omega) (by omega) (by omega)]
  unfold jn qNu
  dsimp only
  by_cases e : st 2 = 1
  · rw [if_pos (by rw [e]; rfl), if_pos e, rd_ok hs (by omega), hd]
    exact key _ h4
  · rw [if_neg (by rw [show (1 : Int32) = nI 1 from rfl, n_inj (by omega) (by omega)]; exact e), if_neg e]
    exact key 0 (Nat.zero_le _)
theorem m_isFlat {FU s p : Nat} {g st : Nat → Nat} {cs cd cl : Nat → Int32} (hS : RepS cs st) (hg : ∀ q, q < 256 → g q ≤ 99) (ho : OKs st) (hs : s < 225) (hd : cd s = nI (qMn g st p)) (hl : cl s = nI (qMx g st p)) (hp : OKp st p) [Decidable (qFl g st p)] : f_X8_isFlat FU cs cd cl (nI s) = some (if qFl g st p then 1 else 0) := by
  have h1 := ho.flat
  have h2 := qMx_99 ho hg hp
  have h3 : qMn g st p ≤ qMx g st p := qMn_Mx ho
  unfold f_X8_isFlat
  rw [rd_ok hs (by omega), rd_ok hs (by omega), show (3 : Int32) = nI 3 from rfl, rd_ok (by omega) (by omega), hS 3 (by omega), hd, hl, pk_sub h3]
  by_cases e : qFl g st p
  · rw [if_pos e, if_neg (by rw [n_lt (by omega) (by omega)]; unfold qFl at e; omega)]
  · rw [if_neg e, if_pos (by rw [n_lt (by omega) (by omega)]; unfold qFl at e; omega)]
theorem m_comp_L {FU s t p q : Nat} {g st : Nat → Nat} {cg cs csq cd : Nat → Int32} (hG : RepG cg g) (hS : RepS cs st) (hg : ∀ q, q < 256 → g q ≤ 99) (ho : OKs st) (hs : s < 225) (ht : t < 225) (hsq : csq s = nI p) (hd : cd s = nI (qMn g st p)) (hp : OKp st p) (hsq2 : csq t = nI q) (hd2 : cd t = nI (qMn g st q)) (hp2 : OKp st q) :
    ∀ (d i fuel : Nat), i + d = qS st → d < fuel → Rt (f_X8_compared_L2 FU (nI s) (nI t) cg cs csq cd (fun (_ : Int32) => some 0) fuel (nI i)) (fun r => r.toInt = cmpI (qNu g st p) (qNu g st q) i d) := by
  have h16 := ho.sq
  intro d
  induction d with
  | zero =>
    intro i fuel e1 e2
    obtain ⟨f, rfl⟩ : ∃ f, fuel = f + 1 := ⟨fuel - 1, by omega⟩
    rw [f_X8_compared_L2, m_numbers hS, bd1_s]
    exact rt_t (by rw [n_le (by omega) (by omega)]; omega) (rt_some rfl)
  | succ d ih =>
    intro i fuel e1 e2
    obtain ⟨f, rfl⟩ : ∃ f, fuel = f + 1 := ⟨fuel - 1, by omega⟩
    have hi : i < qS st := by omega
    have n1 := qNu_99 ho hg hp hi
    have n2 := qNu_99 ho hg hp2 hi
    rw [f_X8_compared_L2, m_numbers hS, bd1_s]
    refine rt_f (by rw [n_le (by omega) (by omega)]; omega) ?_
    rw [m_numberIn hG hS hg ho hs hsq hd hp hi, bd1_s, m_numberIn hG hS hg ho ht hsq2 hd2 hp2 hi, bd1_s]
    have e3 : (nI (qNu g st p i) - nI (qNu g st q i)).toInt = (qNu g st p i : Int) - qNu g st q i := pk_sub_toInt (by omega) (by omega)
    unfold cmpI
    refine rt_if (fun c => ?_) (fun c => ?_)
    · have c' := (i_eq _ _).mp c
      rw [e3, show (0 : Int32).toInt = 0 by decide] at c'
      rw [if_pos (by omega), nI_1]
      exact ih (i + 1) f (by omega) (by omega)
    · rw [i_eq, e3, show (0 : Int32).toInt = 0 by decide] at c
      rw [if_neg (by omega)]
      exact rt_some e3
theorem m_compared {s t p q : Nat} {g st : Nat → Nat} {cg cs csq cd : Nat → Int32} (hG : RepG cg g) (hS : RepS cs st) (hg : ∀ q, q < 256 → g q ≤ 99) (ho : OKs st) (hs : s < 225) (ht : t < 225) (hsq : csq s = nI p) (hd : cd s = nI (qMn g st p)) (hp : OKp st p) (hsq2 : csq t = nI q) (hd2 : cd t = nI (qMn g st q)) (hp2 : OKp st q) :
    Rt (f_X8_compared FU cg cs csq cd (nI s) (nI t)) (fun r => r.toInt = qC g st p q) := by
  have h16 := ho.sq
  unfold f_X8_compared
  exact m_comp_L hG hS hg ho hs ht hsq hd hp hsq2 hd2 hp2 (qS st) 0 FU (by omega) (by unfold FU; omega)
/-- what the reference holds of its first n squares -/
def MS (w : Nat) (g st : Nat → Nat) (n : Nat) (csq cd cl : Nat → Int32) : Prop := ∀ s, s < n → csq s = nI (qP w st s) ∧ cd s = nI (qMn g st (qP w st s)) ∧ cl s = nI (qMx g st (qP w st s))
theorem m_fs90 {FU s p : Nat} {g st : Nat → Nat} {cg cs csq : Nat → Int32} {k : Int32 → (Nat → Int32) → (Nat → Int32) → Option (Int32 × Int32 × (Nat → Int32) × (Nat → Int32) × (Nat → Int32) × (Nat → Int32))} {P : (Int32 × Int32 × (Nat → Int32) × (Nat → Int32) × (Nat → Int32) × (Nat → Int32)) → Prop} (hG : RepG cg g) (hS : RepS cs st) (hg : ∀ q, q < 256 → g q ≤ 99) (ho : OKs st) (hs : s < 225) (hsq : csq s = nI p) (hp : OKp st p) :
    ∀ (d i fuel : Nat) (cd cl : Nat → Int32), i + d = qS st → d < fuel → cd s = nI (mnU (qG g st p) i) → cl s = nI (mxU (qG g st p) i) → (∀ (x : Int32) (cd' cl' : Nat → Int32), cd' s = nI (qMn g st p) → cl' s = nI (qMx g st p) → (∀ t, t ≠ s → cd' t = cd t) → (∀ t, t ≠ s → cl' t = cl t) → Rt (k x cd' cl') P) → Rt (f_X8_findSquares_L90 FU cg cs (nI s) csq k fuel (nI i) cd cl) P := by
  have h16 := ho.sq
  intro d
  induction d with
  | zero =>
    intro i fuel cd cl e1 e2 hd hl hk
    obtain ⟨f, rfl⟩ : ∃ f, fuel = f + 1 := ⟨fuel - 1, by omega⟩
    have ei : i = qS st := by omega
    rw [f_X8_findSquares_L90, m_numbers hS, bd1_s]
    refine rt_t (by rw [n_le (by omega) (by omega)]; omega) (hk _ _ _ ?_ ?_ (fun _ _ => rfl) (fun _ _ => rfl))
    · rw [hd, ei]; rfl
    · rw [hl, ei]; rfl
  | succ d ih =>
    intro i fuel cd cl e1 e2 hd hl hk
    obtain ⟨f, rfl⟩ : ∃ f, fuel = f + 1 := ⟨fuel - 1, by omega⟩
    have hi : i < qS st := by omega
    have n1 := qG_99 ho hg hp hi
    have n2 := mnU_99 (qG g st p) i
    have n3 : mxU (qG g st p) i ≤ 99 := mxU_le _ _ _ (fun j hj => qG_99 ho hg hp (by omega))
    rw [f_X8_findSquares_L90, m_numbers hS, bd1_s]
    refine rt_f (by rw [n_le (by omega) (by omega)]; omega) ?_
    rw [m_greyIn hG hS ho hs hsq hp hi, bd1_s, rd_ok hs (by omega), hd]
    refine rt_j (fun j1 => Rt (j1 (nI (mnU (qG g st p) (i + 1)))) P) ?_ (fun j1 hj1 => ?_)
    · rw [wr_ok hs (by omega), rd_ok hs (by omega), hl]
      refine rt_j (fun j1 => Rt (j1 (nI (mxU (qG g st p) (i + 1)))) P) ?_ (fun j1 hj1 => ?_)
      · rw [wr_ok hs (by omega), nI_1]
        refine ih (i + 1) f _ _ (by omega) (by omega) (by simp [upd]) (by simp [upd]) ?_
        intro x cd' cl' h1 h2 h3 h4
        exact hk x cd' cl' h1 h2 (fun t ht => (h3 t ht).trans (by simp [upd, ht])) (fun t ht => (h4 t ht).trans (by simp [upd, ht]))
      · refine rt_if (fun c => ?_) (fun c => ?_)
        · rw [n_le (by omega) (by omega)] at c
          rw [rd_ok hs (by omega), hl]
          rw [show mxU (qG g st p) (i + 1) = mxU (qG g st p) i by rw [mxU_s]; omega] at hj1
          exact hj1
        · rw [n_le (by omega) (by omega)] at c
          rw [show mxU (qG g st p) (i + 1) = qG g st p i by rw [mxU_s]; omega] at hj1
          exact hj1
    · refine rt_if (fun c => ?_) (fun c => ?_)
      · rw [n_le (by omega) (by omega)] at c
        rw [rd_ok hs (by omega), hd]
        rw [show mnU (qG g st p) (i + 1) = mnU (qG g st p) i by rw [mnU_s]; omega] at hj1
        exact hj1
      · rw [n_le (by omega) (by omega)] at c
        rw [show mnU (qG g st p) (i + 1) = qG g st p i by rw [mnU_s]; omega] at hj1
        exact hj1
theorem m_fs37 {w h y : Nat} {g st : Nat → Nat} {cg cs : Nat → Int32} {k : Int32 → Int32 → (Nat → Int32) → (Nat → Int32) → (Nat → Int32) → Option (Int32 × Int32 × (Nat → Int32) × (Nat → Int32) × (Nat → Int32) × (Nat → Int32))} {P : (Int32 × Int32 × (Nat → Int32) × (Nat → Int32) × (Nat → Int32) × (Nat → Int32)) → Prop} (hG : RepG cg g) (hS : RepS cs st) (hg : ∀ q, q < 256 → g q ≤ 99) (ho : OKs st) (hw : w ≤ 16) (hh : h ≤ 16) (hy : y < qA h st) :
    ∀ (d x fuel : Nat) (csq cd cl : Nat → Int32), x + d = qA w st → d < fuel → MS w g st (qA w st * y + x) csq cd cl → (∀ (z : Int32) (csq' cd' cl' : Nat → Int32), MS w g st (qA w st * (y + 1)) csq' cd' cl' → Rt (k z (nI (qA w st * (y + 1))) csq' cd' cl') P) → Rt (f_X8_findSquares_L37 FU (nI y) (nI w) cg cs k fuel (nI x) (nI (qA w st * y + x)) csq cd cl) P := by
  have h16 := ho.side
  have hA := qA_15 ho hw
  have hB := qA_15 ho hh
  intro d
  induction d with
  | zero =>
    intro x fuel csq cd cl e1 e2 hM hk
    obtain ⟨f, rfl⟩ : ∃ f, fuel = f + 1 := ⟨fuel - 1, by omega⟩
    have ex : x = qA w st := by omega
    rw [f_X8_findSquares_L37, show (0 : Int32) = nI 0 from rfl, rd_ok (by omega) (by omega), hS 0 (by omega), nI_add]
    have e3 : qA w st * y + x = qA w st * (y + 1) := by rw [Nat.mul_add, ex, Nat.mul_one]
    rw [e3] at hM ⊢
    exact rt_t (by rw [n_lt (by omega) (by omega)]; unfold qA at ex; omega) (hk _ _ _ _ hM)
  | succ d ih =>
    intro x fuel csq cd cl e1 e2 hM hk
    obtain ⟨f, rfl⟩ : ∃ f, fuel = f + 1 := ⟨fuel - 1, by omega⟩
    have hx : x < qA w st := by omega
    have hn : qA w st * y + x < 225 := by
      have h1 : qA w st * y ≤ 15 * 14 := Nat.mul_le_mul hA (by omega)
      omega
    have hp : OKp st (16 * y + x) := OKp_xy ho hw hh hx hy
    rw [f_X8_findSquares_L37, show (0 : Int32) = nI 0 from rfl, rd_ok (by omega) (by omega), hS 0 (by omega), nI_add]
    refine rt_f (by rw [n_lt (by omega) (by omega)]; unfold qA at hx; omega) ?_
    rw [wr_ok hn (by omega), wr_ok hn (by omega), wr_ok hn (by omega), p16]
    refine m_fs90 (p := 16 * y + x) hG hS hg ho hn (by simp [upd]) hp (qS st) 0 FU _ _ (by omega) (by have := ho.sq; unfold FU; omega) (by simp [upd]; rfl) (by simp [upd]; rfl) ?_
    intro z cd' cl' h1 h2 h3 h4
    rw [nI_1, nI_1]
    refine ih (x + 1) f _ _ _ (by omega) (by omega) ?_ hk
    intro t ht
    by_cases e : t = qA w st * y + x
    · subst e
      rw [qP_xy hx]
      exact ⟨by simp [upd], h1, h2⟩
    · have := hM t (by omega)
      refine ⟨by simp [upd, e, this.1], ?_, ?_⟩
      · rw [h3 t e]; simp [upd, e, this.2.1]
      · rw [h4 t e]; simp [upd, e, this.2.2]
theorem m_fs20 {w h : Nat} {g st : Nat → Nat} {cg cs : Nat → Int32} {k : Int32 → Int32 → (Nat → Int32) → (Nat → Int32) → (Nat → Int32) → Option (Int32 × Int32 × (Nat → Int32) × (Nat → Int32) × (Nat → Int32) × (Nat → Int32))} {P : (Int32 × Int32 × (Nat → Int32) × (Nat → Int32) × (Nat → Int32) × (Nat → Int32)) → Prop} (hG : RepG cg g) (hS : RepS cs st) (hg : ∀ q, q < 256 → g q ≤ 99) (ho : OKs st) (hw : w ≤ 16) (hh : h ≤ 16) :
    ∀ (d y fuel : Nat) (csq cd cl : Nat → Int32), y + d = qA h st → d < fuel → MS w g st (qA w st * y) csq cd cl → (∀ (z : Int32) (csq' cd' cl' : Nat → Int32), MS w g st (qN w h st) csq' cd' cl' → Rt (k z (nI (qN w h st)) csq' cd' cl') P) → Rt (f_X8_findSquares_L20 FU (nI w) (nI h) cg cs k fuel (nI y) (nI (qA w st * y)) csq cd cl) P := by
  have h16 := ho.side
  have hA := qA_15 ho hw
  have hB := qA_15 ho hh
  intro d
  induction d with
  | zero =>
    intro y fuel csq cd cl e1 e2 hM hk
    obtain ⟨f, rfl⟩ : ∃ f, fuel = f + 1 := ⟨fuel - 1, by omega⟩
    have ey : y = qA h st := by omega
    rw [f_X8_findSquares_L20, show (0 : Int32) = nI 0 from rfl, rd_ok (by omega) (by omega), hS 0 (by omega), nI_add]
    have e3 : qA w st * y = qN w h st := by rw [ey]; rfl
    rw [e3] at hM ⊢
    exact rt_t (by rw [n_lt (by omega) (by omega)]; unfold qA at ey; omega) (hk _ _ _ _ hM)
  | succ d ih =>
    intro y fuel csq cd cl e1 e2 hM hk
    obtain ⟨f, rfl⟩ : ∃ f, fuel = f + 1 := ⟨fuel - 1, by omega⟩
    have hy : y < qA h st := by omega
    rw [f_X8_findSquares_L20, show (0 : Int32) = nI 0 from rfl, rd_ok (by omega) (by omega), hS 0 (by omega), nI_add]
    refine rt_f (by rw [n_lt (by omega) (by omega)]; unfold qA at hy; omega) ?_
    refine m_fs37 (h := h) hG hS hg ho hw hh hy (qA w st) 0 FU csq cd cl (by omega) (by unfold FU; omega) hM ?_
    intro z csq' cd' cl' hM'
    rw [nI_1]
    exact ih (y + 1) f csq' cd' cl' (by omega) (by omega) hM' hk
/-- whom a square is like: the least of those that are alike with it -/
def LK (w : Nat) (g st : Nat → Nat) (n : Nat) (c : Nat → Int32) : Prop := ∀ s, s < n → ∃ t, t ≤ s ∧ c s = nI t ∧ qAl g st (qP w st t) (qP w st s) ∧ ∀ u, u < t → ¬ qAl g st (qP w st u) (qP w st s)
theorem m_fs230 {w h s : Nat} {g st : Nat → Nat} {cg cs csq cd cl : Nat → Int32} {k : Int32 → (Nat → Int32) → Option (Int32 × Int32 × (Nat → Int32) × (Nat → Int32) × (Nat → Int32) × (Nat → Int32))} {P : (Int32 × Int32 × (Nat → Int32) × (Nat → Int32) × (Nat → Int32) × (Nat → Int32)) → Prop} (hG : RepG cg g) (hS : RepS cs st) (hg : ∀ q, q < 256 → g q ≤ 99) (ho : OKs st) (hw : w ≤ 16) (hh : h ≤ 16) (hM : MS w g st (qN w h st) csq cd cl) (hs : s < qN w h st) :
    ∀ (d t fuel : Nat) (c : Nat → Int32), t + d = s → d < fuel → LK w g st s c → c s = nI s → (∀ u, u < t → ¬ qAl g st (qP w st u) (qP w st s)) → (∀ (z : Int32) (c' : Nat → Int32), LK w g st (s + 1) c' → Rt (k z c') P) → Rt (f_X8_findSquares_L230 FU (nI s) cg cs csq cd k fuel (nI t) c) P := by
  have hN := qN_225 (w := w) (h := h) ho hw hh
  intro d
  induction d with
  | zero =>
    intro t fuel c e1 e2 hL hc hu hk
    obtain ⟨f, rfl⟩ : ∃ f, fuel = f + 1 := ⟨fuel - 1, by omega⟩
    have et : t = s := by omega
    subst et
    rw [f_X8_findSquares_L230]
    refine rt_t (Int32.le_refl _) (hk _ _ ?_)
    intro u hu2
    by_cases e : u = t
    · subst e; exact ⟨u, Nat.le_refl _, hc, qAl_rfl, hu⟩
    · exact hL u (by omega)
  | succ d ih =>
    intro t fuel c e1 e2 hL hc hu hk
    obtain ⟨f, rfl⟩ : ∃ f, fuel = f + 1 := ⟨fuel - 1, by omega⟩
    have hts : t < s := by omega
    rw [f_X8_findSquares_L230]
    refine rt_f (by rw [n_le (by omega) (by omega)]; omega) ?_
    rw [rd_ok (by omega) (by omega), hc]
    refine rt_t rfl ?_
    rw [rd_ok (by omega) (by omega)]
    obtain ⟨t0, ht0, ct, at0, lt0⟩ := hL t hts
    have hcomp := m_compared hG hS hg ho (s := s) (t := t) (by omega) (by omega) (hM s hs).1 (hM s hs).2.1 (OKp_s ho hw hh hs) (hM t (by omega)).1 (hM t (by omega)).2.1 (OKp_s ho hw hh (by omega))
    by_cases al : qAl g st (qP w st t) (qP w st s)
    · have e0 : t0 = t := by
        rcases Nat.lt_or_ge t0 t with q | q
        · exact absurd (qAl_trans at0 al) (hu t0 q)
        · omega
      subst e0
      refine rt_j (fun j1 => Rt (j1 (nI t0)) P) ?_ (fun j1 hj1 => ?_)
      · rw [wr_ok (by omega) (by omega), nI_1]
        obtain ⟨f2, rfl⟩ : ∃ f2, f = f2 + 1 := ⟨f - 1, by omega⟩
        rw [f_X8_findSquares_L230]
        have hfin : ∀ z : Int32, Rt (k z (upd c s (nI t0))) P := by
          intro z
          refine hk _ _ ?_
          intro u hu2
          by_cases e : u = s
          · subst e; exact ⟨t0, by omega, by simp [upd], al, hu⟩
          · obtain ⟨v, h1, h2, h3⟩ := hL u (by omega)
            exact ⟨v, h1, by simp [upd, e, h2], h3⟩
        refine rt_if (fun _ => hfin _) (fun _ => ?_)
        rw [rd_ok (by omega) (by omega)]
        refine rt_f ?_ (hfin _)
        simp only [upd, if_true]
        rw [n_inj (by omega) (by omega)]
        omega
      · refine rt_t ct ?_
        refine rt_bd1 hcomp (fun r hr => rt_t ?_ hj1)
        rw [i_eq, hr, qC_0.mpr (qAl_sym al)]
        decide
    · refine rt_j (fun j1 => Rt (j1 (nI s)) P) ?_ (fun j1 hj1 => ?_)
      · rw [wr_ok (by omega) (by omega), nI_1]
        refine ih (t + 1) f _ (by omega) (by omega) ?_ (by simp [upd]) (fun u hu2 => ?_) hk
        · intro u hu2
          obtain ⟨v, h1, h2, h3⟩ := hL u hu2
          exact ⟨v, h1, by simp [upd, show u ≠ s by omega, h2], h3⟩
        · by_cases e : u = t
          · subst e; exact al
          · exact hu u (by omega)
      · refine rt_if (fun _ => ?_) (fun _ => hj1)
        refine rt_bd1 hcomp (fun r hr => rt_f ?_ hj1)
        intro e
        rw [e] at hr
        exact al (qAl_sym (qC_0.mp hr.symm))
theorem m_fs213 {w h : Nat} {g st : Nat → Nat} {cg cs csq cd cl : Nat → Int32} {k : Int32 → (Nat → Int32) → Option (Int32 × Int32 × (Nat → Int32) × (Nat → Int32) × (Nat → Int32) × (Nat → Int32))} {P : (Int32 × Int32 × (Nat → Int32) × (Nat → Int32) × (Nat → Int32) × (Nat → Int32)) → Prop} (hG : RepG cg g) (hS : RepS cs st) (hg : ∀ q, q < 256 → g q ≤ 99) (ho : OKs st) (hw : w ≤ 16) (hh : h ≤ 16) (hM : MS w g st (qN w h st) csq cd cl) :
    ∀ (d s fuel : Nat) (c : Nat → Int32), s + d = qN w h st → d < fuel → LK w g st s c → (∀ (z : Int32) (c' : Nat → Int32), LK w g st (qN w h st) c' → Rt (k z c') P) → Rt (f_X8_findSquares_L213 FU cg cs (nI (qN w h st)) csq cd k fuel (nI s) c) P := by
  have hN := qN_225 (w := w) (h := h) ho hw hh
  intro d
  induction d with
  | zero =>
    intro s fuel c e1 e2 hL hk
    obtain ⟨f, rfl⟩ : ∃ f, fuel = f + 1 := ⟨fuel - 1, by omega⟩
    rw [f_X8_findSquares_L213]
    refine rt_t (by rw [n_le (by omega) (by omega)]; omega) (hk _ _ ?_)
    rw [show qN w h st = s by omega]
    exact hL
  | succ d ih =>
    intro s fuel c e1 e2 hL hk
    obtain ⟨f, rfl⟩ : ∃ f, fuel = f + 1 := ⟨fuel - 1, by omega⟩
    rw [f_X8_findSquares_L213]
    refine rt_f (by rw [n_le (by omega) (by omega)]; omega) ?_
    rw [wr_ok (by omega) (by omega)]
    refine m_fs230 (h := h) hG hS hg ho hw hh hM (by omega) s 0 FU _ (by omega) (by unfold FU; omega) ?_ (by simp [upd]) (fun u hu => by omega) ?_
    · intro u hu
      obtain ⟨v, h1, h2, h3⟩ := hL u hu
      exact ⟨v, h1, by simp [upd, show u ≠ s by omega, h2], h3⟩
    · intro z c' hL'
      rw [nI_1]
      exact ih (s + 1) f c' (by omega) (by omega) hL' hk
/-- the reference's squares are found -/
def MSq (w h : Nat) (g st : Nat → Nat) (m_squares : Int32) (csq cd cl ck : Nat → Int32) : Prop := m_squares = nI (qN w h st) ∧ MS w g st (qN w h st) csq cd cl ∧ LK w g st (qN w h st) ck
theorem m_findSquares {w h om : Nat} {g st : Nat → Nat} {m_squares : Int32} {cg cs csq cd cl ck : Nat → Int32} (hG : RepG cg g) (hS : RepS cs st) (hg : ∀ q, q < 256 → g q ≤ 99) (ho : OKs st) (hw : w ≤ 16) (hh : h ≤ 16) (hom : om ≤ 5) (hc : 1 ≤ om → MSq w h g st m_squares csq cd cl ck) :
    Rt (f_X8_findSquares FU (nI om) (nI w) (nI h) cg cs m_squares csq cd cl ck) (fun q => ∃ om', om ≤ om' ∧ 1 ≤ om' ∧ om' ≤ 5 ∧ (1 ≤ om → om' = om) ∧ q.1 = nI om' ∧ MSq w h g st q.2.1 q.2.2.1 q.2.2.2.1 q.2.2.2.2.1 q.2.2.2.2.2 ∧ (1 ≤ om → q = (nI om, m_squares, csq, cd, cl, ck))) := by
  unfold f_X8_findSquares
  by_cases e : om = 0
  · subst e
    refine rt_t (by decide) ?_
    refine m_fs20 hG hS hg ho hw hh (qA h st) 0 FU csq cd cl (by omega) (by have := qA_15 ho hh; unfold FU; omega) (fun s hs => by simp at hs) ?_
    intro z csq' cd' cl' hM'
    refine m_fs213 (cl := cl') hG hS hg ho hw hh hM' (qN w h st) 0 FU ck (by omega) (by have := qN_225 (w := w) (h := h) ho hw hh; unfold FU; omega) (fun s hs => by omega) ?_
    intro z2 ck' hL
    exact rt_some ⟨1, by omega, by omega, by omega, by omega, rfl, ⟨rfl, hM', hL⟩, by omega⟩
  · refine rt_f (by rw [show (0 : Int32) = nI 0 from rfl, n_le (by omega) (by omega)]; omega) ?_
    exact rt_some ⟨om, by omega, by omega, hom, fun _ => rfl, rfl, hc (by omega), fun _ => rfl⟩
