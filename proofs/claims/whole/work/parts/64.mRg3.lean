/-! the shifts, once and for all -/
noncomputable def zKT (w h : Nat) (g st : Nat → Nat) : Nat × (Nat → Nat) := @dite _ (∃ x : Nat × (Nat → Nat), SHt w h g st x.1 x.2) (Classical.propDecidable _) (fun e => Classical.choose e) (fun _ => (0, fun _ => 0))
noncomputable def zKn (w h : Nat) (g st : Nat → Nat) : Nat := (zKT w h g st).1
noncomputable def zT (w h : Nat) (g st : Nat → Nat) : Nat → Nat := (zKT w h g st).2
theorem sht_can {w h : Nat} {g st : Nat → Nat} {K : Nat} {T : Nat → Nat} (hs : SHt w h g st K T) : SHt w h g st (zKn w h g st) (zT w h g st) ∧ K = zKn w h g st ∧ ∀ j, j < K → T j = zT w h g st j := by
  have ex : ∃ x : Nat × (Nat → Nat), SHt w h g st x.1 x.2 := ⟨(K, T), hs⟩
  have h1 : SHt w h g st (zKn w h g st) (zT w h g st) := by
    unfold zKn zT zKT
    rw [dif_pos ex]
    exact Classical.choose_spec ex
  exact ⟨h1, top_one (ahW_sto _) hs h1⟩
/-- the shifts are found: what both sides hold -/
def SHc (w h : Nat) (g st : Nat → Nat) : Prop := SHt w h g st (zKn w h g st) (zT w h g st)
theorem SHc.K8 {w h : Nat} {g st : Nat → Nat} (hs : SHc w h g st) : zKn w h g st ≤ 8 := hs.1
theorem SHc.T {w h : Nat} {g st : Nat → Nat} (hs : SHc w h g st) {j : Nat} (hj : j < zKn w h g st) : zT w h g st j < 496 := (hs.2.1 j hj).1
theorem SHc.ne {w h : Nat} {g st : Nat → Nat} (hs : SHc w h g st) : ∀ i j, i < j → j < zKn w h g st → zT w h g st i ≠ zT w h g st j := by
  unfold SHc SHt at hs
  exact top_ne (ahW_sto _) hs
theorem MSh.can {w h : Nat} {g st : Nat → Nat} {ns : Int32} {cx cy : Nat → Int32} (hm : MSh w h g st ns cx cy) : SHc w h g st ∧ ns = nI (zKn w h g st) ∧ RX (zT w h g st) (zKn w h g st) cx cy := by
  obtain ⟨K, T, h1, h2, h3⟩ := hm
  obtain ⟨c1, c2, c3⟩ := sht_can h1
  refine ⟨c1, by rw [h2, c2], ?_⟩
  intro j hj
  rw [← c3 j (by omega)]
  exact h3 j (by omega)
theorem CSh.can {w h : Nat} {g st : Nat → Nat} {c1 c2 cpw cv cw nw : Nat → Int32} {np cn : Int32} (hm : CSh w h g st c1 c2 np cpw cv cw cn nw) : CPs w h st (prL w h g st) c1 c2 np cpw cv ∧ SHc w h g st ∧ cn = nI (zKn w h g st) ∧ (∀ j, j < zKn w h g st → cw j = nI (zT w h g st j)) ∧ (∀ i, i < zKn w h g st → nw (zT w h g st i) = nI i) ∧ (∀ v, v < 496 → (∀ i, i < zKn w h g st → zT w h g st i ≠ v) → nw v = -9) := by
  obtain ⟨h0, K, T, h1, h2, h3, h4, h5⟩ := hm
  obtain ⟨e1, e2, e3⟩ := sht_can h1
  refine ⟨h0, e1, by rw [h2, e2], fun j hj => ?_, fun j hj => ?_, fun v hv hn => ?_⟩
  · rw [← e3 j (by omega)]; exact h3 j (by omega)
  · rw [← e3 j (by omega)]; exact h4 j (by omega)
  · exact h5 v hv (fun i hi => by rw [e3 i hi]; exact hn i (by omega))
/-- the first places of the pairs with a shift -/
def zM (w h : Nat) (g st : Nat → Nat) (e : Nat × Nat) (k q : Nat) : Prop := zX w st e.1 e.2 = zT w h g st k % 31 ∧ zY w st e.1 e.2 = zT w h g st k / 31 ∧ qP w st e.1 = q
def zW (w h : Nat) (g st : Nat → Nat) (k q : Nat) : Prop := ∃ j, j < (prL w h g st).length ∧ zM w h g st ((prL w h g st).getD j (0, 0)) k q
noncomputable def zRL (w h : Nat) (g st : Nat → Nat) : List (Nat × Nat) := rgO (zW w h g st) (zKn w h g st)
theorem zW_in {w h : Nat} {g st : Nat → Nat} (ho : OKs st) (hw : w ≤ 16) {k q : Nat} (hz : zW w h g st k q) : q % 16 < w ∧ q / 16 < h ∧ ∃ s, s < qN w h st ∧ qP w st s = q := by
  obtain ⟨j, hj, h1, h2, h3⟩ := hz
  have hm := prL_mem.mp (getD_mem (z := (0, 0)) hj)
  generalize (prL w h g st).getD j (0, 0) = e at *
  have hs : e.1 < qN w h st := by omega
  have hsd := ho.side
  obtain ⟨x, y, hx, hy, he⟩ := q_xy hs
  have hxy : qP w st e.1 = 16 * y + x := by rw [he, qP_xy hx]
  unfold qA at hx hy
  refine ⟨?_, ?_, e.1, hs, h3⟩
  · rw [← h3, hxy]; omega
  · rw [← h3, hxy]; omega
theorem ax_ok2 : ∀ a, a < 16 → ∀ b, b < 16 → nI b - nI a = nI (b + 15 - a) - 15 := by decide +kernel
/-! the reference marks them -/
theorem m_fr60 {w h i : Nat} {g st : Nat → Nat} {csq cd cl c1 c2 cx cy : Nat → Int32} {kk : _} {P : _} (ho : OKs st) (hw : w ≤ 16) (hh : h ≤ 16) (hM : MS w g st (qN w h st) csq cd cl) (hs : SHc w h g st) (h1 : RLs (0, 0) (fun p => p.1) (prL w h g st) c1) (h2 : RLs (0, 0) (fun p => p.2) (prL w h g st) c2) (hX : RX (zT w h g st) (zKn w h g st) cx cy) (hi : i < (prL w h g st).length) :
    ∀ (d v fuel : Nat) (c : Nat → Int32), v + d = zKn w h g st → d < fuel →
      (∀ k q, k < zKn w h g st → q < 256 → (c (256 * k + q) = -1 ∧ ((∃ j, j < i ∧ zM w h g st ((prL w h g st).getD j (0, 0)) k q) ∨ (k < v ∧ zM w h g st ((prL w h g st).getD i (0, 0)) k q))) ∨ (c (256 * k + q) = -9 ∧ ¬ ((∃ j, j < i ∧ zM w h g st ((prL w h g st).getD j (0, 0)) k q) ∨ (k < v ∧ zM w h g st ((prL w h g st).getD i (0, 0)) k q)))) →
      (∀ (z : Int32) (c : Nat → Int32), (∀ k q, k < zKn w h g st → q < 256 → (c (256 * k + q) = -1 ∧ (∃ j, j < i + 1 ∧ zM w h g st ((prL w h g st).getD j (0, 0)) k q)) ∨ (c (256 * k + q) = -9 ∧ ¬ (∃ j, j < i + 1 ∧ zM w h g st ((prL w h g st).getD j (0, 0)) k q))) → Rt (kk z c) P) →
      Rt (f_X8_findRegions_L60 FU (nI i) csq c1 c2 (nI (zKn w h g st)) cx cy kk fuel (nI v) c) P := by
  have hN := qN_225 (w := w) (h := h) ho hw hh
  have h21 := pr_2137 (w := w) (h := h) (g := g) ho hw hh
  have hK := hs.K8
  have hm := prL_mem.mp (getD_mem (z := (0, 0)) hi)
  have e1 : c1 i = nI ((prL w h g st).getD i (0, 0)).1 := h1 i hi
  have e2 : c2 i = nI ((prL w h g st).getD i (0, 0)).2 := h2 i hi
  generalize eE : (prL w h g st).getD i (0, 0) = e at *
  obtain ⟨hm1, hm2, hm3⟩ := hm
  have hs1 : e.1 < qN w h st := by omega
  have q1 := qP_256 ho hw hh hs1
  have q2 := qP_256 ho hw hh hm2
  have y16 := zY_16 (w := w) (h := h) (st := st) (s := e.1) (t := e.2) ho hw hh hm2
  have x31 := zX_31 (w := w) (st := st) (s := e.1) (t := e.2)
  intro d
  induction d with
  | zero =>
    intro v fuel c f1 f2 hc hkk
    obtain ⟨f, rfl⟩ : ∃ f, fuel = f + 1 := ⟨fuel - 1, by omega⟩
    have ev : v = zKn w h g st := by omega
    rw [f_X8_findRegions_L60]
    refine rt_t (by rw [n_le (by omega) (by omega)]; omega) (hkk _ c (fun k q hk hq => ?_))
    have eq : (∃ j, j < i + 1 ∧ zM w h g st ((prL w h g st).getD j (0, 0)) k q) ↔ ((∃ j, j < i ∧ zM w h g st ((prL w h g st).getD j (0, 0)) k q) ∨ (k < v ∧ zM w h g st e k q)) := by
      constructor
      · rintro ⟨j, hj, hz⟩
        by_cases ej : j = i
        · subst ej; rw [eE] at hz; exact Or.inr ⟨by omega, hz⟩
        · exact Or.inl ⟨j, by omega, hz⟩
      · rintro (⟨j, hj, hz⟩ | ⟨_, hz⟩)
        · exact ⟨j, by omega, hz⟩
        · exact ⟨i, by omega, by rw [eE]; exact hz⟩
    rw [eq]
    exact hc k q hk hq
  | succ d ih =>
    intro v fuel c f1 f2 hc hkk
    obtain ⟨f, rfl⟩ : ∃ f, fuel = f + 1 := ⟨fuel - 1, by omega⟩
    have hv : v < zKn w h g st := by omega
    have hT := hs.T hv
    rw [f_X8_findRegions_L60]
    refine rt_f (by rw [n_le (by omega) (by omega)]; omega) ?_
    rw [rd_ok (by omega) (by omega), rd_ok (by omega) (by omega), e1, e2, m_across ho hw hh hM hs1 hm2, bd1_s, rd_ok (by omega) (by omega), (hX v hv).1, ax_ok2 _ (by omega) _ (by omega), nI_1]
    have eX : qP w st e.2 % 16 + 15 - qP w st e.1 % 16 = zX w st e.1 e.2 := rfl
    rw [eX]
    refine rt_jn ?_
    dsimp only
    have upd_v : ∀ (val : Int32), ((zM w h g st e v (qP w st e.1) ∧ val = -1) ∨ (¬ zM w h g st e v (qP w st e.1) ∧ val = c (256 * v + qP w st e.1))) → Rt (wr c 2048 ((256 * nI v) + nI (qP w st e.1)) val (fun c_regionAt_70 => f_X8_findRegions_L60 FU (nI i) csq c1 c2 (nI (zKn w h g st)) cx cy kk f (nI (v + 1)) c_regionAt_70)) P := by
      intro val hval
      rw [show (256 : Int32) = nI 256 from rfl, pk_mul, nI_add, wr_ok (by omega) (by omega)]
      refine ih (v + 1) f _ (by omega) (by omega) (fun k q hk hq => ?_) hkk
      have hold := hc k q hk hq
      by_cases e3 : 256 * k + q = 256 * v + qP w st e.1
      · have ek : k = v := by omega
        have eq : q = qP w st e.1 := by omega
        subst ek eq
        simp only [upd, if_true]
        rcases hval with ⟨z1, z2⟩ | ⟨z1, z2⟩
        · exact Or.inl ⟨z2, Or.inr ⟨by omega, z1⟩⟩
        · rw [z2]
          rcases hold with ⟨y1, y2⟩ | ⟨y1, y2⟩
          · refine Or.inl ⟨y1, ?_⟩
            rcases y2 with y2 | y2
            · exact Or.inl y2
            · omega
          · refine Or.inr ⟨y1, ?_⟩
            rintro (y3 | y3)
            · exact y2 (Or.inl y3)
            · exact z1 y3.2
      · simp only [upd, e3, if_false]
        have eqv : (k < v + 1 ∧ zM w h g st e k q) ↔ (k < v ∧ zM w h g st e k q) := by
          constructor
          · rintro ⟨y1, y2⟩
            refine ⟨?_, y2⟩
            by_cases ek : k = v
            · subst ek
              have := y2.2.2
              omega
            · omega
          · rintro ⟨y1, y2⟩; exact ⟨by omega, y2⟩
        rw [eqv]
        exact hold
    have no : ¬ zM w h g st e v (qP w st e.1) → Rt (rd c1 2200 (nI i) (fun y_65 => rd csq 225 y_65 (fun y_66 => jn (fun (t_67 : Int32) => wr c 2048 ((256 * nI v) + y_66) t_67 (fun c_regionAt_70 => f_X8_findRegions_L60 FU (nI i) csq c1 c2 (nI (zKn w h g st)) cx cy kk f (nI (v + 1)) c_regionAt_70)) (fun j_68 => if (0 : Int32) = 0 then rd c1 2200 (nI i) (fun y_71 => rd csq 225 y_71 (fun y_72 => rd c 2048 ((256 * nI v) + y_72) (fun y_73 => j_68 y_73))) else j_68 (-1))))) P := by
      intro hz
      rw [rd_ok (by omega) (by omega), e1, rd_ok (by omega) (by omega), (hM _ hs1).1]
      refine rt_jn ?_
      dsimp only
      refine rt_t rfl ?_
      rw [rd_ok (by omega) (by omega), e1, rd_ok (by omega) (by omega), (hM _ hs1).1]
      have e4 : (256 : Int32) * nI v + nI (qP w st e.1) = nI (256 * v + qP w st e.1) := by rw [show (256 : Int32) = nI 256 from rfl, pk_mul, nI_add]
      have := upd_v (c (256 * v + qP w st e.1)) (Or.inr ⟨hz, rfl⟩)
      rw [e4] at this ⊢
      rw [rd_ok (by omega) (by omega)]
      exact this
    refine rt_if (fun c1' => ?_) (fun c1' => ?_)
    · rw [(s15 _ (by omega) _ (by omega)).1] at c1'
      rw [rd_ok (by omega) (by omega), rd_ok (by omega) (by omega), e1, e2, m_down ho hw hh hM hs1 hm2 hm1, bd1_s, rd_ok (by omega) (by omega), (hX v hv).2]
      refine rt_if (fun c2' => ?_) (fun c2' => ?_)
      · rw [n_inj (by omega) (by omega)] at c2'
        have hz : zM w h g st e v (qP w st e.1) := ⟨c1', c2', rfl⟩
        rw [rd_ok (by omega) (by omega), e1, rd_ok (by omega) (by omega), (hM _ hs1).1]
        refine rt_jn ?_
        dsimp only
        exact rt_f (by decide) (upd_v (-1) (Or.inl ⟨hz, rfl⟩))
      · rw [n_inj (by omega) (by omega)] at c2'
        have := no (fun z => c2' z.2.1)
        rw [rd_ok (by omega) (by omega), e1, rd_ok (by omega) (by omega), (hM _ hs1).1] at this ⊢
        exact this
    · rw [(s15 _ (by omega) _ (by omega)).1] at c1'
      have := no (fun z => c1' z.1)
      rw [rd_ok (by omega) (by omega), e1, rd_ok (by omega) (by omega), (hM _ hs1).1] at this ⊢
      exact this
theorem m_fr50 {w h : Nat} {g st : Nat → Nat} {csq cd cl c1 c2 cx cy : Nat → Int32} {kk : _} {P : _} (ho : OKs st) (hw : w ≤ 16) (hh : h ≤ 16) (hM : MS w g st (qN w h st) csq cd cl) (hs : SHc w h g st) (h1 : RLs (0, 0) (fun p => p.1) (prL w h g st) c1) (h2 : RLs (0, 0) (fun p => p.2) (prL w h g st) c2) (hX : RX (zT w h g st) (zKn w h g st) cx cy) :
    ∀ (d i fuel : Nat) (c : Nat → Int32), i + d = (prL w h g st).length → d < fuel →
      (∀ k q, k < zKn w h g st → q < 256 → (c (256 * k + q) = -1 ∧ (∃ j, j < i ∧ zM w h g st ((prL w h g st).getD j (0, 0)) k q)) ∨ (c (256 * k + q) = -9 ∧ ¬ (∃ j, j < i ∧ zM w h g st ((prL w h g st).getD j (0, 0)) k q))) →
      (∀ (z : Int32) (c : Nat → Int32), (∀ k q, k < zKn w h g st → q < 256 → (c (256 * k + q) = -1 ∧ zW w h g st k q) ∨ (c (256 * k + q) = -9 ∧ ¬ zW w h g st k q)) → Rt (kk z c) P) →
      Rt (f_X8_findRegions_L50 FU csq (nI (prL w h g st).length) c1 c2 (nI (zKn w h g st)) cx cy kk fuel (nI i) c) P := by
  have h21 := pr_2137 (w := w) (h := h) (g := g) ho hw hh
  have hK := hs.K8
  intro d
  induction d with
  | zero =>
    intro i fuel c f1 f2 hc hkk
    obtain ⟨f, rfl⟩ : ∃ f, fuel = f + 1 := ⟨fuel - 1, by omega⟩
    have ei : i = (prL w h g st).length := by omega
    subst ei
    rw [f_X8_findRegions_L50]
    exact rt_t (by rw [n_le (by omega) (by omega)]; omega) (hkk _ c hc)
  | succ d ih =>
    intro i fuel c f1 f2 hc hkk
    obtain ⟨f, rfl⟩ : ∃ f, fuel = f + 1 := ⟨fuel - 1, by omega⟩
    rw [f_X8_findRegions_L50]
    refine rt_f (by rw [n_le (by omega) (by omega)]; omega) ?_
    refine m_fr60 ho hw hh hM hs h1 h2 hX (by omega : i < (prL w h g st).length) (zKn w h g st) 0 FU c (by omega) (by unfold FU; omega) (fun k q hk hq => ?_) ?_
    · have eq : ((∃ j, j < i ∧ zM w h g st ((prL w h g st).getD j (0, 0)) k q) ∨ (k < 0 ∧ zM w h g st ((prL w h g st).getD i (0, 0)) k q)) ↔ (∃ j, j < i ∧ zM w h g st ((prL w h g st).getD j (0, 0)) k q) := ⟨fun z => z.resolve_right (fun y => by omega), fun z => Or.inl z⟩
      rw [eq]
      exact hc k q hk hq
    · intro z c hc'
      rw [nI_1]
      exact ih (i + 1) f c (by omega) (by omega) hc' hkk
theorem m_fr25 {kk : _} {P : _} : ∀ (d i fuel : Nat) (c : Nat → Int32), i + d = 2048 → d < fuel → (∀ j, j < i → c j = -9) → (∀ (z : Int32) (c' : Nat → Int32), (∀ j, j < 2048 → c' j = -9) → Rt (kk z c') P) → Rt (f_X8_findRegions_L25 FU kk fuel (nI i) c) P := by
  intro d
  induction d with
  | zero =>
    intro i fuel c e1 e2 hc hk
    obtain ⟨f, rfl⟩ : ∃ f, fuel = f + 1 := ⟨fuel - 1, by omega⟩
    rw [f_X8_findRegions_L25]
    exact rt_t (by rw [show (2048 : Int32) = nI 2048 from rfl]; exact (by rw [n_le (by omega) (by omega)]; omega)) (hk _ _ (fun j hj => hc j (by omega)))
  | succ d ih =>
    intro i fuel c e1 e2 hc hk
    obtain ⟨f, rfl⟩ : ∃ f, fuel = f + 1 := ⟨fuel - 1, by omega⟩
    rw [f_X8_findRegions_L25]
    refine rt_f (by rw [show (2048 : Int32) = nI 2048 from rfl]; exact (by rw [n_le (by omega) (by omega)]; omega)) ?_
    rw [wr_ok (by omega) (by omega), nI_1]
    refine ih (i + 1) f _ (by omega) (by omega) (fun j hj => ?_) hk
    by_cases e : j = i
    · subst e; simp [upd]
    · simp [upd, e, hc j (by omega)]
def MRs (w h : Nat) (g st : Nat → Nat) (c : Nat → Int32) (nr : Int32) (cs cp cf : Nat → Int32) : Prop :=
  nr = nI (zRL w h g st).length ∧ RLs (0, 0) (fun e => e.1) (zRL w h g st) cs ∧ RLs (0, 0) (fun e => e.2) (zRL w h g st) cf ∧ RLs (0, 0) (fun e => cnt (rgA (zW w h g st) e)) (zRL w h g st) cp ∧
  (∀ r, r < (zRL w h g st).length → ∀ q, q < 256 → (c (256 * ((zRL w h g st).getD r (0, 0)).1 + q) = nI r ↔ rgA (zW w h g st) ((zRL w h g st).getD r (0, 0)) q))
theorem m_findRegions {w h om : Nat} {g st : Nat → Nat} {m_squares np ns nr : Int32} {cg cs csq cd cl ck cw c1 c2 cv cx cy cra crs crp crf : Nat → Int32} (hG : RepG cg g) (hS : RepS cs st) (hg : ∀ q, q < 256 → g q ≤ 99) (ho : OKs st) (hw : w ≤ 16) (hh : h ≤ 16) (hw1 : 1 ≤ w) (hh1 : 1 ≤ h) (hom : om ≤ 5) (hc : 1 ≤ om → MSq w h g st m_squares csq cd cl ck) (hc2 : 2 ≤ om → MPr w h g st cw np c1 c2 cv) (hc3 : 3 ≤ om → MSh w h g st ns cx cy) (hc4 : 4 ≤ om → MRs w h g st cra nr crs crp crf) :
    Rt (f_X8_findRegions FU (nI om) (nI w) (nI h) cg cs m_squares csq cd cl ck cw np c1 c2 cv ns cx cy cra nr crs crp crf) (fun q => q.1 = nI (max om 4) ∧ MSq w h g st q.2.1 q.2.2.1 q.2.2.2.1 q.2.2.2.2.1 q.2.2.2.2.2.1 ∧ MPr w h g st q.2.2.2.2.2.2.1 q.2.2.2.2.2.2.2.1 q.2.2.2.2.2.2.2.2.1 q.2.2.2.2.2.2.2.2.2.1 q.2.2.2.2.2.2.2.2.2.2.1 ∧ MSh w h g st q.2.2.2.2.2.2.2.2.2.2.2.1 q.2.2.2.2.2.2.2.2.2.2.2.2.1 q.2.2.2.2.2.2.2.2.2.2.2.2.2.1 ∧ MRs w h g st q.2.2.2.2.2.2.2.2.2.2.2.2.2.2.1 q.2.2.2.2.2.2.2.2.2.2.2.2.2.2.2.1 q.2.2.2.2.2.2.2.2.2.2.2.2.2.2.2.2.1 q.2.2.2.2.2.2.2.2.2.2.2.2.2.2.2.2.2.1 q.2.2.2.2.2.2.2.2.2.2.2.2.2.2.2.2.2.2 ∧ (4 ≤ om → q = (nI om, m_squares, csq, cd, cl, ck, cw, np, c1, c2, cv, ns, cx, cy, cra, nr, crs, crp, crf))) := by
  have h21 := pr_2137 (w := w) (h := h) (g := g) ho hw hh
  unfold f_X8_findRegions
  by_cases e : 4 ≤ om
  · refine rt_f (by rw [show (3 : Int32) = nI 3 from rfl]; exact (by rw [n_le (by omega) (by omega)]; omega)) ?_
    exact rt_some ⟨by rw [show max om 4 = om by omega], hc (by omega), hc2 (by omega), hc3 (by omega), hc4 e, fun _ => rfl⟩
  · refine rt_t (by rw [show (3 : Int32) = nI 3 from rfl]; exact (by rw [n_le (by omega) (by omega)]; omega)) ?_
    refine rt_bd14 (m_findShifts hG hS hg ho hw hh hom hc hc2 hc3) ?_
    intro a1 a2 a3 a4 a5 a6 a7 a8 a9 a10 a11 a12 a13 a14 hz
    obtain ⟨z1, z2, z3, z4, _⟩ := hz
    dsimp only at z1 z2 z3 z4
    obtain ⟨y1, y2, y3⟩ := z4.can
    have hK := y1.K8
    refine m_fr25 2048 0 FU cra (by omega) (by unfold FU; omega) (fun j hj => by omega) ?_
    intro x1 c9 hc9
    rw [y2, z3.2.1]
    refine m_fr50 ho hw hh z2.2.1 y1 z3.2.2.1 z3.2.2.2.1 y3 (prL w h g st).length 0 FU c9 (by omega) (by unfold FU; omega) (fun k q hk hq => Or.inr ⟨hc9 _ (by omega), fun z => by obtain ⟨j, hj, _⟩ := z; omega⟩) ?_
    intro x2 c hcw
    have hm1 : ∀ k q, k < zKn w h g st → q < 256 → (c (256 * k + q) = -1 ↔ zW w h g st k q) := by
      intro k q hk hq
      rcases hcw k q hk hq with ⟨b1, b2⟩ | ⟨b1, b2⟩
      · exact ⟨fun _ => b2, fun _ => b1⟩
      · rw [b1]; exact ⟨fun z => absurd z (by decide), fun z => absurd z b2⟩
    refine m_fr190 (W := zW w h g st) hw hh hw1 hh1 hK (fun k q _ _ z => ⟨(zW_in ho hw z).1, (zW_in ho hw z).2.1⟩) (zKn w h g st) 0 FU c 0 crs crp crf (by omega) (by unfold FU; omega) ⟨rfl, fun k hk => by simp [rgO] at hk, fun k hk => by simp [rgO] at hk, fun k hk => by simp [rgO] at hk, fun r hr => by simp [rgO] at hr, fun k' q _ h2 hq => hm1 k' q h2 hq, ?_⟩ ?_
    · intro k' q h1 hq r _ hr
      rcases hcw k' q h1 hq with ⟨b1, b2⟩ | ⟨b1, b2⟩
      · rw [b1]; exact fun z => (nI_nm1 hr).1 z.symm
      · rw [b1]; exact fun z => (nI_nm1 hr).2 z.symm
    · intro x3 c nr cs cp cf r1 r2 r3 r4 r5
      refine rt_some ⟨by rw [show max om 4 = 4 by omega]; rfl, z2, ⟨z3.1, rfl, z3.2.2⟩, ?_, ⟨r1, r2, r3, r4, r5⟩, fun q => by omega⟩
      rw [← y2]
      exact z4
