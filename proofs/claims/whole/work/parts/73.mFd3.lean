/-! the reference: regions, one behind another -/
theorem m_isTaken {n r : Nat} {T : Nat → Nat} {crof : Nat → Int32} (hn : n ≤ 24) (hr : r < 1024) (hT : ∀ i, i < n → crof i = nI (T i) ∧ T i < 1024) : Rt (f_X8_isTaken FU (nI n) crof (nI r)) (fun v => v = 0 ↔ ∀ i, i < n → T i ≠ r) := by
  have go : ∀ (d i fuel : Nat), i + d = n → d < fuel → (∀ i', i' < i → T i' ≠ r) → Rt (f_X8_isTaken_L2 FU (nI r) (nI n) crof (fun (x2_1 : Int32) => some 0) fuel (nI i)) (fun v => v = 0 ↔ ∀ i, i < n → T i ≠ r) := by
    intro d
    induction d with
    | zero =>
      intro i fuel e1 e2 hi
      obtain ⟨f, rfl⟩ : ∃ f, fuel = f + 1 := ⟨fuel - 1, by omega⟩
      rw [f_X8_isTaken_L2]
      exact rt_t (by rw [n_le (by omega) (by omega)]; omega) (rt_some ⟨fun _ i' hi' => hi i' (by omega), fun _ => rfl⟩)
    | succ d ih =>
      intro i fuel e1 e2 hi
      obtain ⟨f, rfl⟩ : ∃ f, fuel = f + 1 := ⟨fuel - 1, by omega⟩
      obtain ⟨t1, t2⟩ := hT i (by omega)
      rw [f_X8_isTaken_L2]
      refine rt_f (by rw [n_le (by omega) (by omega)]; omega) ?_
      rw [rd_ok (by omega) (by omega), t1, nI_1]
      refine rt_if (fun c => ?_) (fun c => ?_)
      · rw [n_inj (by omega) (by omega)] at c
        exact rt_some ⟨fun z => absurd z (by decide), fun z => absurd c (z i (by omega))⟩
      · rw [n_inj (by omega) (by omega)] at c
        refine ih (i + 1) f (by omega) (by omega) (fun i' hi' => ?_)
        by_cases e : i' = i
        · subst e; exact c
        · exact hi i' (by omega)
  unfold f_X8_isTaken
  exact go n 0 FU (by omega) (by unfold FU; omega) (fun i hi => by omega)
def bV (m b : Nat) : Int32 := if m = 0 then -9 else nI b
theorem m_next {N n : Nat} {T Z : Nat → Nat} {crp crof : Nat → Int32} (hN : N ≤ 1024) (hn : n ≤ 24) (hT : ∀ i, i < n → crof i = nI (T i) ∧ T i < 1024) (hZ : ∀ r, r < N → crp r = nI (Z r) ∧ Z r ≤ 256) :
    Rt (f_X8_nextRegion FU (nI N) crp (nI n) crof) (fun v => ∃ m b, v = bV m b ∧ BI (ahN Z) (fun u => u < N) (fun _ => True) T n m b) := by
  have go : ∀ (d r fuel m b : Nat), r + d = N → d < fuel → BI (ahN Z) (fun u => u < r) (fun _ => True) T n m b → Rt (f_X8_nextRegion_L5 FU (nI N) crp (nI n) crof (fun (x1_1 : Int32) (x2_2 : Int32) => some x1_1) fuel (bV m b) (nI r)) (fun v => ∃ m b, v = bV m b ∧ BI (ahN Z) (fun u => u < N) (fun _ => True) T n m b) := by
    intro d
    induction d with
    | zero =>
      intro r fuel m b e1 e2 hB
      obtain ⟨f, rfl⟩ : ∃ f, fuel = f + 1 := ⟨fuel - 1, by omega⟩
      have er : r = N := by omega
      subst er
      rw [f_X8_nextRegion_L5]
      exact rt_t (by rw [n_le (by omega) (by omega)]; omega) (rt_some ⟨m, b, rfl, hB⟩)
    | succ d ih =>
      intro r fuel m b e1 e2 hB
      obtain ⟨f, rfl⟩ : ∃ f, fuel = f + 1 := ⟨fuel - 1, by omega⟩
      have hS' : ∀ u, u < r + 1 ↔ u < r ∨ u = r := fun u => by omega
      rw [f_X8_nextRegion_L5]
      refine rt_f (by rw [n_le (by omega) (by omega)]; omega) ?_
      refine rt_bd1 (m_isTaken hn (by omega : r < 1024) hT) ?_
      intro v hv
      rw [nI_1]
      have yes : (∀ i, i < n → T i ≠ r) → (m = 0 ∨ ahN Z r b) → Rt (f_X8_nextRegion_L5 FU (nI N) crp (nI n) crof (fun (x1_1 : Int32) (x2_2 : Int32) => some x1_1) f (nI r) (nI (r + 1))) (fun v => ∃ m b, v = bV m b ∧ BI (ahN Z) (fun u => u < N) (fun _ => True) T n m b) := by
        intro h1 h2
        have := ih (r + 1) f 1 r (by omega) (by omega) (bi_yes (ahN_sto Z) hB hS' trivial h1 h2)
        exact this
      refine rt_jn ?_
      dsimp only
      refine rt_if (fun c => ?_) (fun c => ?_)
      · have h1 := hv.mp c
        refine rt_jn ?_
        dsimp only
        refine rt_f (by decide) ?_
        refine rt_if (fun c2 => ?_) (fun c2 => ?_)
        · refine yes h1 (Or.inl ?_)
          rcases hB with ⟨b1, _⟩ | ⟨b1, b2, _⟩
          · exact b1
          · exfalso
            unfold bV at c2
            rw [if_neg (by omega)] at c2
            exact (nI_nm1 (by omega)).2 c2
        · have hm : m ≠ 0 := fun z => c2 (by unfold bV; rw [if_pos z])
          have hb : b < r := by
            rcases hB with ⟨b1, _⟩ | ⟨b1, b2, _⟩
            · exact absurd b1 hm
            · exact b2
          have ebV : bV m b = nI b := by unfold bV; rw [if_neg hm]
          obtain ⟨z1, z2⟩ := hZ r (by omega)
          obtain ⟨z3, z4⟩ := hZ b (by omega)
          have keep := ih (r + 1) f m b (by omega) (by omega)
          rw [ebV] at keep
          rw [ebV, rd_ok (by omega) (by omega), rd_ok (by omega) (by omega), z1, z3]
          refine rt_if (fun c3 => ?_) (fun c3 => ?_)
          · rw [n_le (by omega) (by omega)] at c3
            exact keep (bi_keep (ahN_sto Z) hB hS' hm (by unfold ahN; omega))
          · rw [n_le (by omega) (by omega)] at c3
            exact yes h1 (Or.inr (by unfold ahN; omega))
      · refine rt_jn ?_
        dsimp only
        refine rt_t rfl ?_
        refine ih (r + 1) f m b (by omega) (by omega) (bi_no hB hS' (Or.inr ?_))
        refine Classical.byContradiction (fun z => c (hv.mpr (fun i hi e => z ⟨i, hi, e⟩)))
  unfold f_X8_nextRegion
  exact go N 0 FU 0 0 (by omega) (by unfold FU; omega) (Or.inl ⟨rfl, fun u hu => by omega⟩)
/-- what the reference holds of its finding i, of region r -/
def MF1 (w h : Nat) (g st : Nat → Nat) (crof cof cbg chd cin : Nat → Int32) (i r : Nat) : Prop :=
  crof i = nI r ∧ (cof i).toInt = zOf w h g st r ∧ cbg i = nI (cnt (zWd w h g st r)) ∧ chd i = nI (zHd w h g st r) ∧ MIn cin i (zGr w h g st r)
theorem m_ff28 {w h : Nat} {g st : Nat → Nat} {cg cs csq cd cl cx cy cra crs crp crf : Nat → Int32} {nr : Int32} {kk : _} {P : _} (hG : RepG cg g) (hg : ∀ q, q < 256 → g q ≤ 99) (hS : RepS cs st) (ho : OKs st) (hw : w ≤ 16) (hh : h ≤ 16) (hw1 : 1 ≤ w) (hh1 : 1 ≤ h) (hM : MS w g st (qN w h st) csq cd cl) (hR : MRs w h g st cra nr crs crp crf) (hs : SHc w h g st) (hX : RX (zT w h g st) (zKn w h g st) cx cy) :
    ∀ (d n fuel m b : Nat) (T : Nat → Nat) (crof cof cbg chd cin : Nat → Int32), n + d = 25 → d < fuel → n ≤ 24 → (∀ i, i < n → T i < (zRL w h g st).length ∧ True) → (∀ i j, i < j → j < n → ahN (zSz w h g st) (T i) (T j)) → (∀ u, u < (zRL w h g st).length → True → (∃ j, j < n ∧ T j = u) ∨ (∀ j, j < n → ahN (zSz w h g st) (T j) u)) → (∀ i, i < n → MF1 w h g st crof cof cbg chd cin i (T i)) → BI (ahN (zSz w h g st)) (fun u => u < (zRL w h g st).length) (fun _ => True) T n m b →
      (∀ (z : Int32) (K : Nat) (T : Nat → Nat) (crof cof cbg chd cin : Nat → Int32), FT1 w h g st K T → (∀ i, i < K → MF1 w h g st crof cof cbg chd cin i (T i)) → Rt (kk z (nI K) crof cof cbg chd cin) P) →
      Rt (f_X8_findFindings_L28 FU (nI w) (nI h) cg cs (nI (qN w h st)) csq cd cx cy cra (nI (zRL w h g st).length) crs crp crf kk fuel (bV m b) (nI n) crof cof cbg chd cin) P := by
  have h1024 := zRL_1024 hs
  intro d
  induction d with
  | zero => intro n fuel m b T crof cof cbg chd cin e1 e2 e3; omega
  | succ d ih =>
    intro n fuel m b T crof cof cbg chd cin e1 e2 e3 h2 h3 h4 hF hB hk
    obtain ⟨f, rfl⟩ : ∃ f, fuel = f + 1 := ⟨fuel - 1, by omega⟩
    rw [f_X8_findFindings_L28]
    refine rt_if (fun c => ?_) (fun c => ?_)
    · refine hk _ n T crof cof cbg chd cin ⟨e3, h2, h3, fun u hu hc => ?_⟩ hF
      rcases hB with ⟨b1, b2⟩ | ⟨b1, b2, _⟩
      · exact Or.inl (b2 u hu hc)
      · exfalso
        unfold bV at c
        rw [if_neg (by omega)] at c
        exact (nI_nm1 (by omega)).2 c
    · have hm : m ≠ 0 := fun z => c (by unfold bV; rw [if_pos z])
      have ebV : bV m b = nI b := by unfold bV; rw [if_neg hm]
      refine rt_if (fun c2 => ?_) (fun c2 => ?_)
      · rw [show (24 : Int32) = nI 24 from rfl, n_le (by omega) (by omega)] at c2
        refine hk _ n T crof cof cbg chd cin ⟨e3, h2, h3, fun u hu hc => ?_⟩ hF
        rcases h4 u hu hc with z | z
        · exact Or.inl z
        · exact Or.inr ⟨by omega, z⟩
      · rw [show (24 : Int32) = nI 24 from rfl, n_le (by omega) (by omega)] at c2
        rcases hB with ⟨b1, b2⟩ | ⟨b1, b2, b3, b4, b5⟩
        · exact absurd b1 hm
        · have hsel := top_sel (C := fun _ => True) (x := b) h2 h3 h4 b2 b3 b4 b5
          rw [ebV, wr_ok (by omega) (by omega)]
          have eU : (upd crof n (nI b)) n = nI b := by simp only [upd, if_true]
          have hm : MF w h g st cx cy crs (upd crof n (nI b)) n b := ⟨by omega, b2, hs, hX, hR.2.1, eU⟩
          refine rt_bd3 (m_begins (cof := cof) (cbg := cbg) (cin := cin) hS ho hw hh hw1 hh1 hM hR hm) ?_
          intro a1 a2 a3 hz
          obtain ⟨z1, z2, z3, z4, z5, z6⟩ := hz
          dsimp only at z1 z2 z3 z4 z5 z6
          refine rt_bd2 (m_grows (chd := chd) hG hg hS ho hw hh hw1 hh1 hm z1 z5) ?_
          intro a4 a5 hy
          obtain ⟨y1, y2, y3, y4⟩ := hy
          dsimp only at y1 y2 y3 y4
          have hF' : ∀ i, i < n + 1 → MF1 w h g st (upd crof n (nI b)) a1 a2 a4 a5 i (put T n b i) := by
            intro i hi
            by_cases e : i = n
            · subst e
              simp only [put, if_true]
              exact ⟨eU, z1, z3, y1, y3⟩
            · obtain ⟨x1, x2, x3, x4, x5⟩ := hF i (by omega)
              simp only [put, e, if_false]
              refine ⟨?_, by rw [z2 i e]; exact x2, by rw [z4 i e]; exact x3, by rw [y2 i e]; exact x4, ?_⟩
              · simp only [upd, e, if_false]; exact x1
              · intro q hq
                rw [(oth_tr y4 z6) i q e hq]
                exact x5 q hq
          rw [nI_1]
          refine rt_bd1 (m_next (T := put T n b) (Z := zSz w h g st) h1024 (by omega : n + 1 ≤ 24) (fun i hi => ⟨(hF' i hi).1, by have := (hsel.1 i hi).1; omega⟩) (fun r hr => ⟨hR.2.2.2.1 r hr, cnt_256 _⟩)) ?_
          intro v hv
          obtain ⟨m', b', q1, q2⟩ := hv
          subst q1
          exact ih (n + 1) f m' b' (put T n b) _ _ _ _ _ (by omega) (by omega) (by omega) hsel.1 hsel.2.1 hsel.2.2 hF' q2 hk
/-! the reference numbers its findings -/
theorem m_fAhead {FU w h i i' r r' : Nat} {g st : Nat → Nat} {crs crf crp cra crof cof cbg chd cin : Nat → Int32} {nr : Int32} (hs : SHc w h g st) (hR : MRs w h g st cra nr crs crp crf) (hi : i < 24) (hi' : i' < 24) (hr : r < (zRL w h g st).length) (hr' : r' < (zRL w h g st).length) (h1 : MF1 w h g st crof cof cbg chd cin i r) (h2 : MF1 w h g st crof cof cbg chd cin i' r') :
    Rt (f_X8_isFindingAhead FU crs crf crof chd (nI i) (nI i')) (fun v => v = 0 ↔ ¬ ahN (zHd w h g st) r r') := by
  have h1024 := zRL_1024 hs
  have hK := hs.K8
  have m1 := zE2_mem hr
  have m2 := zE2_mem hr'
  have s1 : zHd w h g st r ≤ 256 := cnt_256 _
  have s2 : zHd w h g st r' ≤ 256 := cnt_256 _
  have no : ∀ q : Prop, q → (((0 : Int32) = 0) ↔ q) := fun q hq => ⟨fun _ => hq, fun _ => rfl⟩
  have yes : ∀ q : Prop, ¬ q → (((1 : Int32) = 0) ↔ q) := fun q hq => ⟨fun z => absurd z (by decide), fun z => absurd z hq⟩
  have lx : ∀ a b, a < b → b < (zRL w h g st).length → lexP (zE2 w h g st a) (zE2 w h g st b) := fun a b x y => zE2_lex x y
  have lx1 : r < r' → lexP (zE2 w h g st r) (zE2 w h g st r') := fun z => lx r r' z hr'
  have lx2 : r' < r → lexP (zE2 w h g st r') (zE2 w h g st r) := fun z => lx r' r z hr
  unfold lexP at lx1 lx2
  have es1 : f_X8_shiftOf FU crs crof (nI i) = some (nI (zE2 w h g st r).1) := by
    have e5 : crs r = nI (zE2 w h g st r).1 := hR.2.1 r hr
    unfold f_X8_shiftOf
    rw [rd_ok (by omega) (by omega), h1.1, rd_ok (by omega) (by omega), e5]
  have es2 : f_X8_shiftOf FU crs crof (nI i') = some (nI (zE2 w h g st r').1) := by
    have e5 : crs r' = nI (zE2 w h g st r').1 := hR.2.1 r' hr'
    unfold f_X8_shiftOf
    rw [rd_ok (by omega) (by omega), h2.1, rd_ok (by omega) (by omega), e5]
  have ef1 : crf r = nI (zE2 w h g st r).2 := hR.2.2.1 r hr
  have ef2 : crf r' = nI (zE2 w h g st r').2 := hR.2.2.1 r' hr'
  have eqr : r = r' → zE2 w h g st r = zE2 w h g st r' := fun z => by rw [z]
  have eqh : r = r' → zHd w h g st r = zHd w h g st r' := fun z => by rw [z]
  unfold f_X8_isFindingAhead
  rw [rd_ok (by omega) (by omega), rd_ok (by omega) (by omega), h1.2.2.2.1, h2.2.2.2.1]
  refine rt_if (fun c => ?_) (fun c => ?_)
  · rw [n_inj (by omega) (by omega)] at c
    rw [es1, bd1_s, es2, bd1_s]
    refine rt_if (fun c2 => ?_) (fun c2 => ?_)
    · rw [n_inj (by omega) (by omega)] at c2
      rw [rd_ok (by omega) (by omega), h1.1, rd_ok (by omega) (by omega), ef1, rd_ok (by omega) (by omega), h2.1, rd_ok (by omega) (by omega), ef2]
      refine rt_if (fun c3 => ?_) (fun c3 => ?_)
      · rw [n_le (by omega) (by omega)] at c3
        exact rt_some (no _ (by unfold ahN; omega))
      · rw [n_le (by omega) (by omega)] at c3
        refine rt_some (yes _ ?_)
        have : r ≠ r' := fun z => by have := eqr z; rw [this] at c3; omega
        unfold ahN; omega
    · rw [n_inj (by omega) (by omega)] at c2
      rw [bd1_s, bd1_s]
      refine rt_if (fun c3 => ?_) (fun c3 => ?_)
      · rw [n_le (by omega) (by omega)] at c3
        exact rt_some (no _ (by unfold ahN; omega))
      · rw [n_le (by omega) (by omega)] at c3
        refine rt_some (yes _ ?_)
        have : r ≠ r' := fun z => by have := eqr z; rw [this] at c3; omega
        unfold ahN; omega
  · rw [n_inj (by omega) (by omega)] at c
    rw [rd_ok (by omega) (by omega), rd_ok (by omega) (by omega), h1.2.2.2.1, h2.2.2.2.1]
    refine rt_if (fun c3 => ?_) (fun c3 => ?_)
    · rw [n_le (by omega) (by omega)] at c3
      exact rt_some (no _ (by unfold ahN; omega))
    · rw [n_le (by omega) (by omega)] at c3
      exact rt_some (yes _ (by unfold ahN; omega))
