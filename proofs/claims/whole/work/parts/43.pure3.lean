/-! raise, paste: the same steps on both sides -/
def itr {α : Type} (f : Nat → α → α) : Nat → Nat → α → α
  | _, 0, s => s
  | i, d + 1, s => itr f (i + 1) d (f i s)
def stp (p v : Nat) (s : Nat × (Nat → Nat)) : Nat × (Nat → Nat) := (s.1 + (if s.2 p = v then 0 else 1), put s.2 p v)
def clN (a : Nat) (z : Int) : Nat := if (a : Int) + z < 0 then 0 else if 99 < (a : Int) + z then 99 else ((a : Int) + z).toNat
theorem clN_le (a : Nat) (z : Int) : clN a z ≤ 99 := by
  unfold clN
  split
  · omega
  · split
    · omega
    · omega
theorem cl_7 {a : Nat} {v : Int32} (ha : a ≤ 99) (h1 : -99 ≤ v.toInt) (h2 : v.toInt ≤ 99) : (if 0 < (if (nI a + v) < 99 then (nI a + v) else 99) then (if (nI a + v) < 99 then (nI a + v) else 99) else 0) = nI (clN a v.toInt) := by
  have e0 := i_nI (n := a) (by omega)
  have e1 : (nI a + v).toInt = (a : Int) + v.toInt := by rw [i_add (by omega) (by omega), e0]
  have c99 : (99 : Int32).toInt = 99 := by decide
  have c0 : (0 : Int32).toInt = 0 := by decide
  unfold clN
  by_cases q1 : (nI a + v) < 99
  · rw [if_pos q1]
    have q1' := (i_lt _ _).mp q1
    by_cases q2 : (0 : Int32) < nI a + v
    · rw [if_pos q2]
      have q2' := (i_lt _ _).mp q2
      rw [if_neg (by omega), if_neg (by omega), i_eq, i_nI (by omega)]
      omega
    · rw [if_neg q2]
      rw [i_lt] at q2
      by_cases q3 : (a : Int) + v.toInt < 0
      · rw [if_pos q3]; rfl
      · rw [if_neg q3, if_neg (by omega), i_eq, i_nI (by omega)]
        omega
  · rw [if_neg q1, if_pos (by decide)]
    rw [i_lt] at q1
    rw [if_neg (by omega)]
    by_cases q3 : 99 < (a : Int) + v.toInt
    · rw [if_pos q3]; rfl
    · rw [if_neg q3, i_eq, i_nI (by omega)]
      omega
theorem cl_8 {β : Type} {a : Nat} {v : Int32} {j : Int32 → β} (ha : a ≤ 99) (h1 : -99 ≤ v.toInt) (h2 : v.toInt ≤ 99) : (if 0 ≤ (nI a + v) then if (nI a + v) ≤ 99 then j (nI a + v) else j 99 else j 0) = j (nI (clN a v.toInt)) := by
  have e0 := i_nI (n := a) (by omega)
  have e1 : (nI a + v).toInt = (a : Int) + v.toInt := by rw [i_add (by omega) (by omega), e0]
  have c99 : (99 : Int32).toInt = 99 := by decide
  have c0 : (0 : Int32).toInt = 0 := by decide
  unfold clN
  by_cases q1 : (0 : Int32) ≤ nI a + v
  · rw [if_pos q1]
    have q1' := (i_le _ _).mp q1
    by_cases q2 : nI a + v ≤ 99
    · rw [if_pos q2]
      have q2' := (i_le _ _).mp q2
      rw [if_neg (by omega), if_neg (by omega)]
      congr 1
      rw [i_eq, i_nI (by omega)]
      omega
    · rw [if_neg q2]
      rw [i_le] at q2
      rw [if_neg (by omega), if_pos (by omega)]
      rfl
  · rw [if_neg q1]
    rw [i_le] at q1
    rw [if_pos (by omega)]
    rfl
def rsI (j : Nat) (z : Int) : Nat → (Nat × (Nat → Nat)) → Nat × (Nat → Nat) := fun i s => stp (16 * j + i) (clN (s.2 (16 * j + i)) z) s
theorem stp_99 {p v : Nat} {s : Nat × (Nat → Nat)} (h : ∀ q, q < 256 → s.2 q ≤ 99) (hv : v ≤ 99) : ∀ q, q < 256 → (stp p v s).2 q ≤ 99 := put_99 h hv
theorem rs_99 {j : Nat} {z : Int} : ∀ (d i : Nat) (s : Nat × (Nat → Nat)), (∀ q, q < 256 → s.2 q ≤ 99) → ∀ q, q < 256 → (itr (rsI j z) i d s).2 q ≤ 99
  | 0, _, _, h => h
  | d + 1, i, s, h => rs_99 d (i + 1) _ (stp_99 h (clN_le _ _))
theorem rs_in7 {FU w h a ww j : Nat} {v : Int32} {k : Int32 → Int32 → (Nat → Int32) → Option (Int32 × (Nat → Int32) × Int32)} {P : (Int32 × (Nat → Int32) × Int32) → Prop} (hw : w ≤ 16) (hh : h ≤ 16) (haw : a + ww ≤ w) (hj : j < h) (h1 : -99 ≤ v.toInt) (h2 : v.toInt ≤ 99) :
    ∀ (d i fuel : Nat) (c : Nat → Int32) (s : Nat × (Nat → Nat)), i + d = a + ww → d < fuel → RepG c s.2 → (∀ q, q < 256 → s.2 q ≤ 99) → (∀ (x : Int32) (c' : Nat → Int32), RepG c' (itr (rsI j v.toInt) i d s).2 → Rt (k (nI (itr (rsI j v.toInt) i d s).1) x c') P) → Rt (f_X7_raise_L69 FU (nI a) (nI ww) v (nI j) (nI w) (nI h) k fuel (nI s.1) (nI i) c) P := by
  intro d
  induction d with
  | zero =>
    intro i fuel c s e1 e2 hr hg hk
    obtain ⟨f, rfl⟩ : ∃ f, fuel = f + 1 := ⟨fuel - 1, by omega⟩
    rw [f_X7_raise_L69]
    refine rt_t (by rw [nI_add, n_le (by omega) (by omega)]; omega) (hk _ _ hr)
  | succ d ih =>
    intro i fuel c s e1 e2 hr hg hk
    obtain ⟨f, rfl⟩ : ∃ f, fuel = f + 1 := ⟨fuel - 1, by omega⟩
    rw [f_X7_raise_L69]
    refine rt_f (by rw [nI_add, n_le (by omega) (by omega)]; omega) ?_
    rw [grey_ok hw hh (by omega) hj hr, bd1_s, cl_7 (hg _ (by omega)) h1 h2]
    refine rt_bd2 (change_ok hw hh (by omega) hj hr hg (clN_le _ _)) ?_
    intro r c' hz
    dsimp only at hz
    rw [hz.1, nI_add, nI_1]
    exact ih (i + 1) f c' (rsI j v.toInt i s) (by omega) (by omega) hz.2 (stp_99 hg (clN_le _ _)) hk
theorem rs_in8 {FU a ww j : Nat} {v : Int32} {k : Int32 → Int32 → (Nat → Int32) → Option (Int32 × Int32 × (Nat → Int32))} {P : (Int32 × Int32 × (Nat → Int32)) → Prop} (haw : a + ww ≤ 16) (hj : j < 16) (h1 : -99 ≤ v.toInt) (h2 : v.toInt ≤ 99) :
    ∀ (d i fuel : Nat) (c : Nat → Int32) (s : Nat × (Nat → Nat)), i + d = a + ww → d < fuel → RepG c s.2 → (∀ q, q < 256 → s.2 q ≤ 99) → (∀ (x : Int32) (c' : Nat → Int32), RepG c' (itr (rsI j v.toInt) i d s).2 → Rt (k (nI (itr (rsI j v.toInt) i d s).1) x c') P) → Rt (f_X8_raise_L56 FU (nI a) (nI ww) v (nI j) k fuel (nI s.1) (nI i) c) P := by
  intro d
  induction d with
  | zero =>
    intro i fuel c s e1 e2 hr hg hk
    obtain ⟨f, rfl⟩ : ∃ f, fuel = f + 1 := ⟨fuel - 1, by omega⟩
    rw [f_X8_raise_L56]
    refine rt_t (by rw [nI_add, n_le (by omega) (by omega)]; omega) (hk _ _ hr)
  | succ d ih =>
    intro i fuel c s e1 e2 hr hg hk
    obtain ⟨f, rfl⟩ : ∃ f, fuel = f + 1 := ⟨fuel - 1, by omega⟩
    rw [f_X8_raise_L56]
    refine rt_f (by rw [nI_add, n_le (by omega) (by omega)]; omega) ?_
    rw [p16, rd_ok (by omega) (by omega), hr _ (by omega)]
    refine rt_j (fun j1 => Rt (j1 (nI (clN (s.2 (16 * j + i)) v.toInt))) P) ?_ (fun j1 hj1 => by rw [cl_8 (j := j1) (hg (16 * j + i) (by omega)) h1 h2]; exact hj1)
    rw [wr_ok (by omega) (by omega)]
    have hc := clN_le (s.2 (16 * j + i)) v.toInt
    have hg1 := hg (16 * j + i) (by omega)
    have key : ∀ t : Int32, t = nI (if s.2 (16 * j + i) = clN (s.2 (16 * j + i)) v.toInt then 0 else 1) → Rt (f_X8_raise_L56 FU (nI a) (nI ww) v (nI j) k f (nI s.1 + t) (nI i + 1) (upd c (16 * j + i) (nI (clN (s.2 (16 * j + i)) v.toInt)))) P := by
      intro t et
      rw [et, nI_add, nI_1]
      exact ih (i + 1) f _ (rsI j v.toInt i s) (by omega) (by omega) (rep_put hr) (stp_99 hg (clN_le _ _)) hk
    refine rt_jn (rt_if (fun q => key 0 ?_) (fun q => key 1 ?_))
    · rw [n_inj (by omega) (by omega)] at q
      rw [if_pos q.symm]; rfl
    · rw [n_inj (by omega) (by omega)] at q
      rw [if_neg (fun z => q z.symm)]; rfl
def rsO (a ww : Nat) (z : Int) : Nat → (Nat × (Nat → Nat)) → Nat × (Nat → Nat) := fun j s => itr (rsI j z) a ww s
theorem rs_out7 {w h a ww b hh : Nat} {v : Int32} {k : Int32 → Int32 → (Nat → Int32) → Option (Int32 × (Nat → Int32) × Int32)} {P : (Int32 × (Nat → Int32) × Int32) → Prop} (hw : w ≤ 16) (hhh : h ≤ 16) (haw : a + ww ≤ w) (hbh : b + hh ≤ h) (h1 : -99 ≤ v.toInt) (h2 : v.toInt ≤ 99) :
    ∀ (d j fuel : Nat) (c : Nat → Int32) (s : Nat × (Nat → Nat)), j + d = b + hh → d < fuel → RepG c s.2 → (∀ q, q < 256 → s.2 q ≤ 99) → (∀ (x : Int32) (c' : Nat → Int32), RepG c' (itr (rsO a ww v.toInt) j d s).2 → (∀ q, q < 256 → (itr (rsO a ww v.toInt) j d s).2 q ≤ 99) → Rt (k (nI (itr (rsO a ww v.toInt) j d s).1) x c') P) → Rt (f_X7_raise_L57 FU (nI a) (nI b) (nI ww) (nI hh) v (nI w) (nI h) k fuel (nI s.1) (nI j) c) P := by
  intro d
  induction d with
  | zero =>
    intro j fuel c s e1 e2 hr hg hk
    obtain ⟨f, rfl⟩ : ∃ f, fuel = f + 1 := ⟨fuel - 1, by omega⟩
    rw [f_X7_raise_L57]
    refine rt_t (by rw [nI_add, n_le (by omega) (by omega)]; omega) (hk _ _ hr hg)
  | succ d ih =>
    intro j fuel c s e1 e2 hr hg hk
    obtain ⟨f, rfl⟩ : ∃ f, fuel = f + 1 := ⟨fuel - 1, by omega⟩
    rw [f_X7_raise_L57]
    refine rt_f (by rw [nI_add, n_le (by omega) (by omega)]; omega) ?_
    refine rs_in7 hw hhh haw (by omega) h1 h2 ww a FU c s rfl (by unfold FU; omega) hr hg ?_
    intro x c' hr'
    rw [nI_1]
    exact ih (j + 1) f c' (rsO a ww v.toInt j s) (by omega) (by omega) hr' (rs_99 ww a s hg) hk
theorem rs_out8 {a ww b hh : Nat} {v : Int32} {k : Int32 → Int32 → (Nat → Int32) → Option (Int32 × Int32 × (Nat → Int32))} {P : (Int32 × Int32 × (Nat → Int32)) → Prop} (haw : a + ww ≤ 16) (hbh : b + hh ≤ 16) (h1 : -99 ≤ v.toInt) (h2 : v.toInt ≤ 99) :
    ∀ (d j fuel : Nat) (c : Nat → Int32) (s : Nat × (Nat → Nat)), j + d = b + hh → d < fuel → RepG c s.2 → (∀ q, q < 256 → s.2 q ≤ 99) → (∀ (x : Int32) (c' : Nat → Int32), RepG c' (itr (rsO a ww v.toInt) j d s).2 → Rt (k (nI (itr (rsO a ww v.toInt) j d s).1) x c') P) → Rt (f_X8_raise_L44 FU (nI a) (nI b) (nI ww) (nI hh) v k fuel (nI s.1) (nI j) c) P := by
  intro d
  induction d with
  | zero =>
    intro j fuel c s e1 e2 hr hg hk
    obtain ⟨f, rfl⟩ : ∃ f, fuel = f + 1 := ⟨fuel - 1, by omega⟩
    rw [f_X8_raise_L44]
    refine rt_t (by rw [nI_add, n_le (by omega) (by omega)]; omega) (hk _ _ hr)
  | succ d ih =>
    intro j fuel c s e1 e2 hr hg hk
    obtain ⟨f, rfl⟩ : ∃ f, fuel = f + 1 := ⟨fuel - 1, by omega⟩
    rw [f_X8_raise_L44]
    refine rt_f (by rw [nI_add, n_le (by omega) (by omega)]; omega) ?_
    refine rs_in8 haw (by omega) h1 h2 ww a FU c s rfl (by unfold FU; omega) hr hg ?_
    intro x c' hr'
    rw [nI_1]
    exact ih (j + 1) f c' (rsO a ww v.toInt j s) (by omega) (by omega) hr' (rs_99 ww a s hg) hk
/-- a part of the picture -/
def InW (w h a b : Nat) (x y : Int32) (ww hh : Nat) : Prop := 1 ≤ ww ∧ 1 ≤ hh ∧ a + ww ≤ w ∧ b + hh ≤ h ∧ x = nI ww ∧ y = nI hh
theorem from_t {FU w h a b ww hh : Nat} {x y : Int32} (hw : w ≤ 16) (hhh : h ≤ 16) (hp : InW w h a b x y ww hh) : f_X2_hasFrom FU (nI w) (nI h) (nI a) (nI b) x y = some 1 := by
  obtain ⟨h1, h2, h3, h4, rfl, rfl⟩ := hp
  unfold f_X2_hasFrom
  rw [pk_sub (by omega), pk_sub (by omega), if_neg (by rw [show (1 : Int32) = nI 1 from rfl, n_lt (by omega) (by omega)]; omega), if_neg (by rw [n_lt (by omega) (by omega)]; omega), if_neg (by rw [show (1 : Int32) = nI 1 from rfl, n_lt (by omega) (by omega)]; omega), if_neg (by rw [n_lt (by omega) (by omega)]; omega)]
theorem part_t {FU w h a b ww hh : Nat} {x y : Int32} (hw : w ≤ 16) (hhh : h ≤ 16) (hp : InW w h a b x y ww hh) : f_X8_isPart FU (nI w) (nI h) (nI a) (nI b) x y = some 1 := by
  obtain ⟨h1, h2, h3, h4, rfl, rfl⟩ := hp
  unfold f_X8_isPart
  rw [pk_sub (by omega), pk_sub (by omega), if_neg (by rw [show (0 : Int32) = nI 0 from rfl, n_le (by omega) (by omega)]; omega), if_neg (by rw [show (0 : Int32) = nI 0 from rfl, n_le (by omega) (by omega)]; omega), if_neg (by rw [n_lt (by omega) (by omega)]; omega), if_neg (by rw [n_lt (by omega) (by omega)]; omega)]
theorem part_no {w h a b : Nat} {x y : Int32} (hw : w ≤ 16) (hhh : h ≤ 16) (ha : a < w) (hb : b < h) (hp : ∀ ww hh, ¬ InW w h a b x y ww hh) : x.toInt < 1 ∨ ((w : Int) - a) < x.toInt ∨ y.toInt < 1 ∨ ((h : Int) - b) < y.toInt := by
  by_cases c1 : x.toInt < 1
  · exact Or.inl c1
  · by_cases c2 : ((w : Int) - a) < x.toInt
    · exact Or.inr (Or.inl c2)
    · by_cases c3 : y.toInt < 1
      · exact Or.inr (Or.inr (Or.inl c3))
      · by_cases c4 : ((h : Int) - b) < y.toInt
        · exact Or.inr (Or.inr (Or.inr c4))
        · exfalso
          obtain ⟨m, hm, e, ei⟩ := i_nat (x := x) (by omega)
          obtain ⟨n, hn, e', ei'⟩ := i_nat (x := y) (by omega)
          exact hp m n ⟨by omega, by omega, by omega, by omega, e, e'⟩
theorem from_f {FU w h a b : Nat} {x y : Int32} (hw : w ≤ 16) (hhh : h ≤ 16) (ha : a < w) (hb : b < h) (hp : ∀ ww hh, ¬ InW w h a b x y ww hh) : f_X2_hasFrom FU (nI w) (nI h) (nI a) (nI b) x y = some 0 := by
  have hc := part_no hw hhh ha hb hp
  unfold f_X2_hasFrom
  rw [pk_sub (by omega), pk_sub (by omega)]
  have e1 := i_nI (n := w - a) (by omega)
  have e2 := i_nI (n := h - b) (by omega)
  have e3 : (1 : Int32).toInt = 1 := by decide
  by_cases c1 : x < 1
  · rw [if_pos c1]
  · rw [if_neg c1]
    by_cases c2 : nI (w - a) < x
    · rw [if_pos c2]
    · rw [if_neg c2]
      by_cases c3 : y < 1
      · rw [if_pos c3]
      · rw [if_neg c3]
        by_cases c4 : nI (h - b) < y
        · rw [if_pos c4]
        · exfalso
          rw [i_lt] at c1 c2 c3 c4
          omega
theorem part_f {FU w h a b : Nat} {x y : Int32} (hw : w ≤ 16) (hhh : h ≤ 16) (ha : a < w) (hb : b < h) (hp : ∀ ww hh, ¬ InW w h a b x y ww hh) : f_X8_isPart FU (nI w) (nI h) (nI a) (nI b) x y = some 0 := by
  have hc := part_no hw hhh ha hb hp
  unfold f_X8_isPart
  rw [pk_sub (by omega), pk_sub (by omega)]
  have e1 := i_nI (n := w - a) (by omega)
  have e2 := i_nI (n := h - b) (by omega)
  have e3 : (0 : Int32).toInt = 0 := by decide
  by_cases c1 : x ≤ 0
  · rw [if_pos c1]
  · rw [if_neg c1]
    by_cases c2 : y ≤ 0
    · rw [if_pos c2]
    · rw [if_neg c2]
      by_cases c3 : nI (w - a) < x
      · rw [if_pos c3]
      · rw [if_neg c3]
        by_cases c4 : nI (h - b) < y
        · rw [if_pos c4]
        · exfalso
          rw [i_le] at c1 c2
          rw [i_lt] at c3 c4
          omega
theorem core_raise {w h : Nat} {g st : Nat → Nat} {c_columns c_rows m_width m_height c_reached m_worked : Int32} {c_greys c_settings m_grey m_setting m_leastOf m_mostOf : Nat → Int32} (hP : PicOK w h g st) (hC : CoreC w h g st c_columns c_rows c_greys c_settings) (hM : CoreM w h g st m_width m_height m_grey m_setting m_leastOf m_mostOf) (x1 x2 x3 x4 x5 : Int32) :
    (∃ r, f_X7_raise FU c_greys c_columns c_rows c_reached x1 x2 x3 x4 x5 = some (r, c_greys, c_reached) ∧ f_X8_raise FU m_worked m_width m_height m_grey x1 x2 x3 x4 x5 = some (r, m_worked, m_grey)) ∨
    (∃ (g' : Nat → Nat) (r : Int32) (c_greys' m_grey' : Nat → Int32), f_X7_raise FU c_greys c_columns c_rows c_reached x1 x2 x3 x4 x5 = some (r, c_greys', 0) ∧ f_X8_raise FU m_worked m_width m_height m_grey x1 x2 x3 x4 x5 = some (r, 0, m_grey') ∧ RepG c_greys' g' ∧ RepG m_grey' g' ∧ ∀ q, q < 256 → g' q ≤ 99) := by
  obtain ⟨hw1, hw, hh1, hh, hg, hs⟩ := hP
  obtain ⟨rfl, rfl, hr, -⟩ := hC
  obtain ⟨rfl, rfl, hm, -⟩ := hM
  by_cases c1 : ∃ a b, InP w h x1 x2 a b
  · obtain ⟨a, b, hp⟩ := c1
    have e1 := has_t (FU := FU) hw hh hp
    have e2 := pl_t (FU := FU) hw hh hp
    obtain ⟨ha, hb, rfl, rfl⟩ := hp
    by_cases c2 : ∃ ww hh', InW w h a b x3 x4 ww hh'
    · obtain ⟨ww, hv, hq⟩ := c2
      have e3 := from_t (FU := FU) hw hh hq
      have e4 := part_t (FU := FU) hw hh hq
      obtain ⟨k1, k2, k3, k4, rfl, rfl⟩ := hq
      by_cases c3 : x5 < -99 ∨ 99 < x5
      · left
        have e5 : f_X8_within FU x5 (-99) 99 = some 0 := wi_f c3
        unfold f_X7_raise f_X8_raise
        rw [e1, e2, e3, e4, wi_eq, e5]
        exact ⟨-2, rfl, rfl⟩
      · right
        have n1 : ¬ x5 < -99 := fun q => c3 (Or.inl q)
        have n2 : ¬ 99 < x5 := fun q => c3 (Or.inr q)
        have e5 : f_X8_within FU x5 (-99) 99 = some 1 := wi_t n1 n2
        rw [i_lt] at n1 n2
        have d1 : (-99 : Int32).toInt = -99 := by decide
        have d2 : (99 : Int32).toInt = 99 := by decide
        have t7 : Rt (f_X7_raise FU c_greys (nI w) (nI h) c_reached (nI a) (nI b) (nI ww) (nI hv) x5) (fun q => q.1 = nI (itr (rsO a ww x5.toInt) b hv (0, g)).1 ∧ RepG q.2.1 (itr (rsO a ww x5.toInt) b hv (0, g)).2 ∧ q.2.2 = 0 ∧ ∀ z, z < 256 → (itr (rsO a ww x5.toInt) b hv (0, g)).2 z ≤ 99) := by
          unfold f_X7_raise
          rw [e1, bd1_s, if_neg (by decide), e3, bd1_s, if_neg (by decide), wi_eq, e5, bd1_s, if_neg (by decide)]
          unfold f_X6_forget
          rw [bd1_s]
          exact rs_out7 hw hh k3 k4 (by omega) (by omega) hv b FU c_greys (0, g) rfl (by unfold FU; omega) hr hg (fun x c' hr' h9 => rt_some ⟨rfl, hr', rfl, h9⟩)
        have t8 : Rt (f_X8_raise FU m_worked (nI w) (nI h) m_grey (nI a) (nI b) (nI ww) (nI hv) x5) (fun q => q.1 = nI (itr (rsO a ww x5.toInt) b hv (0, g)).1 ∧ q.2.1 = 0 ∧ RepG q.2.2 (itr (rsO a ww x5.toInt) b hv (0, g)).2) := by
          unfold f_X8_raise
          rw [e2, bd1_s, if_neg (by decide), e4, bd1_s, if_neg (by decide), e5, bd1_s, if_neg (by decide)]
          exact rs_out8 (by omega) (by omega) (by omega) (by omega) hv b FU m_grey (0, g) rfl (by unfold FU; omega) hm hg (fun x c' hr' => rt_some ⟨rfl, rfl, hr'⟩)
        obtain ⟨⟨r, q1, q2⟩, z1, z2, z3, z4, z5⟩ := t7
        obtain ⟨⟨r', p1, p2⟩, y1, y2, y3, y4⟩ := t8
        dsimp only at z2 z3 z4 y2 y3 y4
        subst z2 z4 y2 y3
        exact ⟨_, _, _, _, z1, y1, z3, y4, z5⟩
    · left
      have e3 := from_f (FU := FU) hw hh ha hb (fun m n q => c2 ⟨m, n, q⟩)
      have e4 := part_f (FU := FU) hw hh ha hb (fun m n q => c2 ⟨m, n, q⟩)
      unfold f_X7_raise f_X8_raise
      rw [e1, e2, e3, e4]
      exact ⟨-2, rfl, rfl⟩
  · left
    unfold f_X7_raise f_X8_raise
    rw [has_f hw hh (fun a b q => c1 ⟨a, b, q⟩), pl_f hw hh hw1 hh1 (fun a b q => c1 ⟨a, b, q⟩)]
    exact ⟨-1, rfl, rfl⟩
