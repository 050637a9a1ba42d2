/-! paste -/
theorem remembered_ok {FU w h a b : Nat} {c : Nat → Int32} {g : Nat → Nat} (hw : w ≤ 16) (hh : h ≤ 16) (ha : a < w) (hb : b < h) (hr : RepG c g) : f_X2_rememberedOf FU c (nI w) (nI h) (nI a) (nI b) = some (nI (g (16 * b + a))) := by
  unfold f_X2_rememberedOf
  rw [has_t hw hh ⟨ha, hb, rfl, rfl⟩, bd1_s, if_neg (by decide), p16, rd_ok (by omega) (by omega), hr _ (by omega)]
theorem remember_ok {FU : Nat} {c c2 : Nat → Int32} {g : Nat → Nat} (hr : RepG c g) : Rt (f_X2_remember FU c c2) (fun q => RepG q g) := by
  unfold f_X2_remember cpa
  rw [if_neg (by decide)]
  refine rt_some (fun p hp => ?_)
  have e : (256 : Int32).toNatClampNeg = 256 := by decide
  have e0 : (0 : Int32).toNatClampNeg = 0 := by decide
  rw [e, e0, pk_cpy_in (by omega) (by omega)]
  rw [show 0 + (p - 0) = p by omega]
  exact hr p hp
/-- what a paste does: from a, b to c, d; of row j, column i -/
def psI (g0 : Nat → Nat) (a b c d j : Nat) : Nat → (Nat × (Nat → Nat)) → Nat × (Nat → Nat) := fun i s => stp (16 * (d + j) + (c + i)) (g0 (16 * (b + j) + (a + i))) s
def psO (g0 : Nat → Nat) (a b c d ww : Nat) : Nat → (Nat × (Nat → Nat)) → Nat × (Nat → Nat) := fun j s => itr (psI g0 a b c d j) 0 ww s
theorem ps_99 {g0 : Nat → Nat} {a b c d j : Nat} (h0 : ∀ q, q < 256 → g0 q ≤ 99) (hj : b + j < 16) : ∀ (n i : Nat) (s : Nat × (Nat → Nat)), a + i + n ≤ 16 → (∀ q, q < 256 → s.2 q ≤ 99) → ∀ q, q < 256 → (itr (psI g0 a b c d j) i n s).2 q ≤ 99
  | 0, _, _, _, h => h
  | n + 1, i, s, hn, h => ps_99 h0 hj n (i + 1) _ (by omega) (stp_99 h (h0 _ (by omega)))
theorem ps_in7 {FU w h a b c d ww j : Nat} {g0 : Nat → Nat} {cr : Nat → Int32} {k : Int32 → Int32 → (Nat → Int32) → Option (Int32 × (Nat → Int32) × (Nat → Int32) × Int32)} {P : (Int32 × (Nat → Int32) × (Nat → Int32) × Int32) → Prop} (hw : w ≤ 16) (hh : h ≤ 16) (haw : a + ww ≤ w) (hcw : c + ww ≤ w) (hbj : b + j < h) (hdj : d + j < h) (h0 : RepG cr g0) (h9 : ∀ q, q < 256 → g0 q ≤ 99) :
    ∀ (n i fuel : Nat) (cg : Nat → Int32) (s : Nat × (Nat → Nat)), i + n = ww → n < fuel → RepG cg s.2 → (∀ q, q < 256 → s.2 q ≤ 99) → (∀ (x : Int32) (c' : Nat → Int32), RepG c' (itr (psI g0 a b c d j) i n s).2 → Rt (k (nI (itr (psI g0 a b c d j) i n s).1) x c') P) → Rt (f_X7_paste_L93 FU (nI a) (nI b) (nI ww) (nI c) (nI d) (nI j) cr (nI w) (nI h) k fuel (nI s.1) (nI i) cg) P := by
  intro n
  induction n with
  | zero =>
    intro i fuel cg s e1 e2 hr hg hk
    obtain ⟨f, rfl⟩ : ∃ f, fuel = f + 1 := ⟨fuel - 1, by omega⟩
    rw [f_X7_paste_L93]
    refine rt_t (by rw [n_le (by omega) (by omega)]; omega) (hk _ _ hr)
  | succ n ih =>
    intro i fuel cg s e1 e2 hr hg hk
    obtain ⟨f, rfl⟩ : ∃ f, fuel = f + 1 := ⟨fuel - 1, by omega⟩
    rw [f_X7_paste_L93]
    refine rt_f (by rw [n_le (by omega) (by omega)]; omega) ?_
    rw [nI_add, nI_add, remembered_ok hw hh (by omega) hbj h0, bd1_s, nI_add, nI_add]
    refine rt_bd2 (change_ok hw hh (by omega) hdj hr hg (h9 _ (by omega))) ?_
    intro r c' hz
    dsimp only at hz
    rw [hz.1, nI_add, nI_1]
    exact ih (i + 1) f c' (psI g0 a b c d j i s) (by omega) (by omega) hz.2 (stp_99 hg (h9 _ (by omega))) hk
theorem p16b (x y z : Nat) : ((16 * (nI x)) + nI y) + nI z = nI (16 * x + (y + z)) := by
  rw [p16, nI_add, Nat.add_assoc]
theorem ps_in8 {FU a b c d ww j : Nat} {g0 : Nat → Nat} {cr : Nat → Int32} {k : Int32 → Int32 → (Nat → Int32) → Option (Int32 × Int32 × (Nat → Int32) × (Nat → Int32))} {P : (Int32 × Int32 × (Nat → Int32) × (Nat → Int32)) → Prop} (haw : a + ww ≤ 16) (hcw : c + ww ≤ 16) (hbj : b + j < 16) (hdj : d + j < 16) (h0 : RepG cr g0) (h9 : ∀ q, q < 256 → g0 q ≤ 99) :
    ∀ (n i fuel : Nat) (cg : Nat → Int32) (s : Nat × (Nat → Nat)), i + n = ww → n < fuel → RepG cg s.2 → (∀ q, q < 256 → s.2 q ≤ 99) → (∀ (x : Int32) (c' : Nat → Int32), RepG c' (itr (psI g0 a b c d j) i n s).2 → Rt (k (nI (itr (psI g0 a b c d j) i n s).1) x c') P) → Rt (f_X8_paste_L98 FU (nI a) (nI b) (nI ww) (nI c) (nI d) (nI j) cr k fuel (nI s.1) (nI i) cg) P := by
  intro n
  induction n with
  | zero =>
    intro i fuel cg s e1 e2 hr hg hk
    obtain ⟨f, rfl⟩ : ∃ f, fuel = f + 1 := ⟨fuel - 1, by omega⟩
    rw [f_X8_paste_L98]
    refine rt_t (by rw [n_le (by omega) (by omega)]; omega) (hk _ _ hr)
  | succ n ih =>
    intro i fuel cg s e1 e2 hr hg hk
    obtain ⟨f, rfl⟩ : ∃ f, fuel = f + 1 := ⟨fuel - 1, by omega⟩
    rw [f_X8_paste_L98]
    refine rt_f (by rw [n_le (by omega) (by omega)]; omega) ?_
    rw [nI_add, nI_add, p16b, p16b, rd_ok (by omega) (by omega), rd_ok (by omega) (by omega), h0 _ (by omega), hr _ (by omega)]
    have hc := h9 (16 * (b + j) + (a + i)) (by omega)
    have hg1 := hg (16 * (d + j) + (c + i)) (by omega)
    have key : ∀ t : Int32, t = nI (if s.2 (16 * (d + j) + (c + i)) = g0 (16 * (b + j) + (a + i)) then 0 else 1) → Rt (wr cg 256 (nI (16 * (d + j) + (c + i))) (nI (g0 (16 * (b + j) + (a + i)))) (fun c_grey_29 => f_X8_paste_L98 FU (nI a) (nI b) (nI ww) (nI c) (nI d) (nI j) cr k f (nI s.1 + t) (nI i + 1) c_grey_29)) P := by
      intro t et
      rw [wr_ok (by omega) (by omega), et, nI_add, nI_1]
      exact ih (i + 1) f _ (psI g0 a b c d j i s) (by omega) (by omega) (rep_put hr) (stp_99 hg (h9 _ (by omega))) hk
    refine rt_jn (rt_if (fun q => key 0 ?_) (fun q => key 1 ?_))
    · rw [n_inj (by omega) (by omega)] at q
      rw [if_pos q]; rfl
    · rw [n_inj (by omega) (by omega)] at q
      rw [if_neg q]; rfl
theorem ps_out7 {w h a b c d ww hh : Nat} {g0 : Nat → Nat} {cr : Nat → Int32} {k : Int32 → Int32 → (Nat → Int32) → Option (Int32 × (Nat → Int32) × (Nat → Int32) × Int32)} {P : (Int32 × (Nat → Int32) × (Nat → Int32) × Int32) → Prop} (hw : w ≤ 16) (hhh : h ≤ 16) (haw : a + ww ≤ w) (hcw : c + ww ≤ w) (hbh : b + hh ≤ h) (hdh : d + hh ≤ h) (h0 : RepG cr g0) (h9 : ∀ q, q < 256 → g0 q ≤ 99) :
    ∀ (n j fuel : Nat) (cg : Nat → Int32) (s : Nat × (Nat → Nat)), j + n = hh → n < fuel → RepG cg s.2 → (∀ q, q < 256 → s.2 q ≤ 99) → (∀ (x : Int32) (c' : Nat → Int32), RepG c' (itr (psO g0 a b c d ww) j n s).2 → (∀ q, q < 256 → (itr (psO g0 a b c d ww) j n s).2 q ≤ 99) → Rt (k (nI (itr (psO g0 a b c d ww) j n s).1) x c') P) → Rt (f_X7_paste_L83 FU (nI a) (nI b) (nI ww) (nI hh) (nI c) (nI d) cr (nI w) (nI h) k fuel (nI s.1) (nI j) cg) P := by
  intro n
  induction n with
  | zero =>
    intro j fuel cg s e1 e2 hr hg hk
    obtain ⟨f, rfl⟩ : ∃ f, fuel = f + 1 := ⟨fuel - 1, by omega⟩
    rw [f_X7_paste_L83]
    refine rt_t (by rw [n_le (by omega) (by omega)]; omega) (hk _ _ hr hg)
  | succ n ih =>
    intro j fuel cg s e1 e2 hr hg hk
    obtain ⟨f, rfl⟩ : ∃ f, fuel = f + 1 := ⟨fuel - 1, by omega⟩
    rw [f_X7_paste_L83]
    refine rt_f (by rw [n_le (by omega) (by omega)]; omega) ?_
    refine ps_in7 hw hhh haw hcw (by omega) (by omega) h0 h9 ww 0 FU cg s (by omega) (by unfold FU; omega) hr hg ?_
    intro x c' hr'
    rw [nI_1]
    exact ih (j + 1) f c' (psO g0 a b c d ww j s) (by omega) (by omega) hr' (ps_99 h9 (by omega) ww 0 s (by omega) hg) hk
theorem ps_out8 {a b c d ww hh : Nat} {g0 : Nat → Nat} {cr : Nat → Int32} {k : Int32 → Int32 → (Nat → Int32) → Option (Int32 × Int32 × (Nat → Int32) × (Nat → Int32))} {P : (Int32 × Int32 × (Nat → Int32) × (Nat → Int32)) → Prop} (haw : a + ww ≤ 16) (hcw : c + ww ≤ 16) (hbh : b + hh ≤ 16) (hdh : d + hh ≤ 16) (h0 : RepG cr g0) (h9 : ∀ q, q < 256 → g0 q ≤ 99) :
    ∀ (n j fuel : Nat) (cg : Nat → Int32) (s : Nat × (Nat → Nat)), j + n = hh → n < fuel → RepG cg s.2 → (∀ q, q < 256 → s.2 q ≤ 99) → (∀ (x : Int32) (c' : Nat → Int32), RepG c' (itr (psO g0 a b c d ww) j n s).2 → Rt (k (nI (itr (psO g0 a b c d ww) j n s).1) x c') P) → Rt (f_X8_paste_L88 FU (nI a) (nI b) (nI ww) (nI hh) (nI c) (nI d) cr k fuel (nI s.1) (nI j) cg) P := by
  intro n
  induction n with
  | zero =>
    intro j fuel cg s e1 e2 hr hg hk
    obtain ⟨f, rfl⟩ : ∃ f, fuel = f + 1 := ⟨fuel - 1, by omega⟩
    rw [f_X8_paste_L88]
    refine rt_t (by rw [n_le (by omega) (by omega)]; omega) (hk _ _ hr)
  | succ n ih =>
    intro j fuel cg s e1 e2 hr hg hk
    obtain ⟨f, rfl⟩ : ∃ f, fuel = f + 1 := ⟨fuel - 1, by omega⟩
    rw [f_X8_paste_L88]
    refine rt_f (by rw [n_le (by omega) (by omega)]; omega) ?_
    refine ps_in8 haw hcw (by omega) (by omega) h0 h9 ww 0 FU cg s (by omega) (by unfold FU; omega) hr hg ?_
    intro x c' hr'
    rw [nI_1]
    exact ih (j + 1) f c' (psO g0 a b c d ww j s) (by omega) (by omega) hr' (ps_99 h9 (by omega) ww 0 s (by omega) hg) hk
theorem ps_lift {FU : Nat} {c : Nat → Int32} {g : Nat → Nat} {k : Int32 → (Nat → Int32) → Option (Int32 × Int32 × (Nat → Int32) × (Nat → Int32))} {P : (Int32 × Int32 × (Nat → Int32) × (Nat → Int32)) → Prop} (hr : RepG c g) : ∀ (d i fuel : Nat) (cl : Nat → Int32), i + d = 256 → d < fuel → (∀ p, p < i → cl p = nI (g p)) → (∀ (x : Int32) (c' : Nat → Int32), RepG c' g → Rt (k x c') P) → Rt (f_X8_paste_L54 FU c k fuel (nI i) cl) P := by
  intro d
  induction d with
  | zero =>
    intro i fuel cl h1 h2 hc hk
    obtain ⟨f, rfl⟩ : ∃ f, fuel = f + 1 := ⟨fuel - 1, by omega⟩
    rw [f_X8_paste_L54]
    refine rt_t (by rw [show (256 : Int32) = nI 256 from rfl, n_le (by omega) (by omega)]; omega) (hk _ _ (fun p hp => hc p (by omega)))
  | succ d ih =>
    intro i fuel cl h1 h2 hc hk
    obtain ⟨f, rfl⟩ : ∃ f, fuel = f + 1 := ⟨fuel - 1, by omega⟩
    rw [f_X8_paste_L54]
    refine rt_f (by rw [show (256 : Int32) = nI 256 from rfl, n_le (by omega) (by omega)]; omega) ?_
    rw [rd_ok (by omega) (by omega), hr _ (by omega), wr_ok (by omega) (by omega), nI_1]
    refine ih (i + 1) f _ (by omega) (by omega) (fun p hp => ?_) hk
    by_cases e : p = i
    · subst e; simp [upd]
    · simp [upd, e, hc p (by omega)]
theorem core_paste {w h : Nat} {g st : Nat → Nat} {c_columns c_rows m_width m_height c_reached m_worked : Int32} {c_greys c_remembered c_settings m_grey m_lifted m_setting m_leastOf m_mostOf : Nat → Int32} (hP : PicOK w h g st) (hC : CoreC w h g st c_columns c_rows c_greys c_settings) (hM : CoreM w h g st m_width m_height m_grey m_setting m_leastOf m_mostOf) (x1 x2 x3 x4 x5 x6 : Int32) :
    (∃ r, f_X7_paste FU c_greys c_remembered c_columns c_rows c_reached x1 x2 x3 x4 x5 x6 = some (r, c_greys, c_remembered, c_reached) ∧ f_X8_paste FU m_worked m_width m_height m_grey m_lifted x1 x2 x3 x4 x5 x6 = some (r, m_worked, m_grey, m_lifted)) ∨
    (∃ (g' : Nat → Nat) (r : Int32) (c_greys' c_remembered' m_grey' m_lifted' : Nat → Int32), f_X7_paste FU c_greys c_remembered c_columns c_rows c_reached x1 x2 x3 x4 x5 x6 = some (r, c_greys', c_remembered', 0) ∧ f_X8_paste FU m_worked m_width m_height m_grey m_lifted x1 x2 x3 x4 x5 x6 = some (r, 0, m_grey', m_lifted') ∧ RepG c_greys' g' ∧ RepG m_grey' g' ∧ ∀ q, q < 256 → g' q ≤ 99) := by
  obtain ⟨hw1, hw, hh1, hh, hg, hs⟩ := hP
  obtain ⟨rfl, rfl, hr, -⟩ := hC
  obtain ⟨rfl, rfl, hm, -⟩ := hM
  by_cases c1 : ∃ a b, InP w h x1 x2 a b
  · obtain ⟨a, b, hp⟩ := c1
    have e1 := has_t (FU := FU) hw hh hp
    have e2 := pl_t (FU := FU) hw hh hp
    obtain ⟨ha, hb, rfl, rfl⟩ := hp
    by_cases c4 : ∃ a b, InP w h x5 x6 a b
    · obtain ⟨c, d, hp⟩ := c4
      have e3 := has_t (FU := FU) hw hh hp
      have e4 := pl_t (FU := FU) hw hh hp
      obtain ⟨hc, hd, rfl, rfl⟩ := hp
      by_cases c2 : ∃ ww hh', InW w h a b x3 x4 ww hh'
      · obtain ⟨ww, hv, hq⟩ := c2
        have e5 := from_t (FU := FU) hw hh hq
        have e6 := part_t (FU := FU) hw hh hq
        obtain ⟨k1, k2, k3, k4, rfl, rfl⟩ := hq
        by_cases c3 : c + ww ≤ w ∧ d + hv ≤ h
        · right
          have e7 := from_t (FU := FU) (a := c) (b := d) (ww := ww) (hh := hv) (x := nI ww) (y := nI hv) hw hh ⟨k1, k2, c3.1, c3.2, rfl, rfl⟩
          have e8 := part_t (FU := FU) (a := c) (b := d) (ww := ww) (hh := hv) (x := nI ww) (y := nI hv) hw hh ⟨k1, k2, c3.1, c3.2, rfl, rfl⟩
          have t7 : Rt (f_X7_paste FU c_greys c_remembered (nI w) (nI h) c_reached (nI a) (nI b) (nI ww) (nI hv) (nI c) (nI d)) (fun q => q.1 = nI (itr (psO g a b c d ww) 0 hv (0, g)).1 ∧ RepG q.2.1 (itr (psO g a b c d ww) 0 hv (0, g)).2 ∧ q.2.2.2 = 0 ∧ ∀ z, z < 256 → (itr (psO g a b c d ww) 0 hv (0, g)).2 z ≤ 99) := by
            unfold f_X7_paste
            rw [e1, bd1_s, if_neg (by decide), e3, bd1_s, if_neg (by decide), e5, bd1_s, if_neg (by decide), e7, bd1_s, if_neg (by decide)]
            unfold f_X6_forget
            rw [bd1_s]
            refine rt_bd1 (remember_ok hr) (fun cr hcr => ?_)
            exact ps_out7 hw hh k3 c3.1 k4 c3.2 hcr hg hv 0 FU c_greys (0, g) (by omega) (by unfold FU; omega) hr hg (fun x c' hr' h9 => rt_some ⟨rfl, hr', rfl, h9⟩)
          have t8 : Rt (f_X8_paste FU m_worked (nI w) (nI h) m_grey m_lifted (nI a) (nI b) (nI ww) (nI hv) (nI c) (nI d)) (fun q => q.1 = nI (itr (psO g a b c d ww) 0 hv (0, g)).1 ∧ q.2.1 = 0 ∧ RepG q.2.2.1 (itr (psO g a b c d ww) 0 hv (0, g)).2) := by
            unfold f_X8_paste
            rw [e2, bd1_s, if_neg (by decide), e4, bd1_s, if_neg (by decide), e6, bd1_s, if_neg (by decide), e8, bd1_s, if_neg (by decide)]
            refine ps_lift hm 256 0 FU m_lifted rfl (by decide) (fun p hp => by omega) (fun x cr hcr => ?_)
            exact ps_out8 (by omega) (by omega) (by omega) (by omega) hcr hg hv 0 FU m_grey (0, g) (by omega) (by unfold FU; omega) hm hg (fun x c' hr' => rt_some ⟨rfl, rfl, hr'⟩)
          obtain ⟨⟨r, q1, q2, q3⟩, z1, z2, z3, z4, z5⟩ := t7
          obtain ⟨⟨r', p1, p2, p3⟩, y1, y2, y3, y4⟩ := t8
          dsimp only at z2 z3 z4 y2 y3 y4
          subst z2 z4 y2 y3
          exact ⟨_, _, _, _, _, _, z1, y1, z3, y4, z5⟩
        · left
          have hno : ∀ m n, ¬ InW w h c d (nI ww) (nI hv) m n := by
            intro m n q
            obtain ⟨q1, q2, q3, q4, q5, q6⟩ := q
            rw [n_inj (by omega) (by omega)] at q5 q6
            subst q5 q6
            exact c3 ⟨q3, q4⟩
          have e7 := from_f (FU := FU) hw hh hc hd hno
          have e8 := part_f (FU := FU) hw hh hc hd hno
          unfold f_X7_paste f_X8_paste
          rw [e1, e2, e3, e4, e5, e6, e7, e8]
          exact ⟨-2, rfl, rfl⟩
      · left
        have e3' := from_f (FU := FU) hw hh ha hb (fun m n q => c2 ⟨m, n, q⟩)
        have e4' := part_f (FU := FU) hw hh ha hb (fun m n q => c2 ⟨m, n, q⟩)
        unfold f_X7_paste f_X8_paste
        rw [e1, e2, e3, e4, e3', e4']
        exact ⟨-2, rfl, rfl⟩
    · left
      unfold f_X7_paste f_X8_paste
      rw [e1, e2, has_f hw hh (fun a b q => c4 ⟨a, b, q⟩), pl_f hw hh hw1 hh1 (fun a b q => c4 ⟨a, b, q⟩)]
      exact ⟨-1, rfl, rfl⟩
  · left
    unfold f_X7_paste f_X8_paste
    rw [has_f hw hh (fun a b q => c1 ⟨a, b, q⟩), pl_f hw hh hw1 hh1 (fun a b q => c1 ⟨a, b, q⟩)]
    exact ⟨-1, rfl, rfl⟩
