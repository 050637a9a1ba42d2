/-! the findings, once and for all -/
def FT1 (w h : Nat) (g st : Nat → Nat) (K : Nat) (T : Nat → Nat) : Prop := Top 24 (ahN (zSz w h g st)) (fun _ => True) (zRL w h g st).length K T
noncomputable def zFT (w h : Nat) (g st : Nat → Nat) : Nat × (Nat → Nat) := @dite _ (∃ x : Nat × (Nat → Nat), FT1 w h g st x.1 x.2) (Classical.propDecidable _) (fun e => Classical.choose e) (fun _ => (0, fun _ => 0))
noncomputable def zFn (w h : Nat) (g st : Nat → Nat) : Nat := (zFT w h g st).1
noncomputable def zTr (w h : Nat) (g st : Nat → Nat) : Nat → Nat := (zFT w h g st).2
def FT2 (w h : Nat) (g st : Nat → Nat) (T' : Nat → Nat) : Prop := Top (zFn w h g st) (ahN (zHd w h g st)) (fun r => ∃ j, j < zFn w h g st ∧ zTr w h g st j = r) (zRL w h g st).length (zFn w h g st) T'
noncomputable def zTf (w h : Nat) (g st : Nat → Nat) : Nat → Nat := @dite _ (∃ x : Nat → Nat, FT2 w h g st x) (Classical.propDecidable _) (fun e => Classical.choose e) (fun _ => fun _ => 0)
theorem ft1_can {w h : Nat} {g st : Nat → Nat} {K : Nat} {T : Nat → Nat} (ht : FT1 w h g st K T) : FT1 w h g st (zFn w h g st) (zTr w h g st) ∧ K = zFn w h g st ∧ ∀ j, j < K → T j = zTr w h g st j := by
  have ex : ∃ x : Nat × (Nat → Nat), FT1 w h g st x.1 x.2 := ⟨(K, T), ht⟩
  have h1 : FT1 w h g st (zFn w h g st) (zTr w h g st) := by
    unfold zFn zTr zFT
    rw [dif_pos ex]
    exact Classical.choose_spec ex
  exact ⟨h1, top_one (ahN_sto _) ht h1⟩
theorem ft2_can {w h : Nat} {g st : Nat → Nat} {T' : Nat → Nat} (ht : FT2 w h g st T') : FT2 w h g st (zTf w h g st) ∧ ∀ j, j < zFn w h g st → T' j = zTf w h g st j := by
  have ex : ∃ x : Nat → Nat, FT2 w h g st x := ⟨T', ht⟩
  have h1 : FT2 w h g st (zTf w h g st) := by
    unfold zTf
    rw [dif_pos ex]
    exact Classical.choose_spec ex
  exact ⟨h1, (top_one (ahN_sto _) ht h1).2⟩
def FDc (w h : Nat) (g st : Nat → Nat) : Prop := FT1 w h g st (zFn w h g st) (zTr w h g st) ∧ FT2 w h g st (zTf w h g st) ∧ ∀ j, j < zFn w h g st → ∃ i, i < zFn w h g st ∧ zTf w h g st i = zTr w h g st j
theorem FDc.n24 {w h : Nat} {g st : Nat → Nat} (hf : FDc w h g st) : zFn w h g st ≤ 24 := hf.1.1
theorem FDc.f {w h : Nat} {g st : Nat → Nat} (hf : FDc w h g st) {k : Nat} (hk : k < zFn w h g st) : zTf w h g st k < (zRL w h g st).length := (hf.2.1.2.1 k hk).1
def CFd (w h : Nat) (g st : Nat → Nat) (l : Nat → Nat) (fcn : Int32) (crg : Nat → Int32) (cr : Nat → Nat → Int32) (fs fx fy fp fn fo fpf fpl : Nat → Int32) : Prop :=
  FDc w h g st ∧ fcn = nI (zFn w h g st) ∧ (∀ k, k < zFn w h g st → GW w h g st cr fs fx fy fp fn fo fpf fpl (zTf w h g st k) (l k)) ∧ (∀ k', k' < zKn w h g st → crg k' = nI (rgI (zW w h g st) k' 256).length)
theorem sorted_ft2 {w h : Nat} {g st : Nat → Nat} {T' : Nat → Nat} (h1 : FT1 w h g st (zFn w h g st) (zTr w h g st)) (h2 : ∀ i j, i < j → j < zFn w h g st → ahN (zHd w h g st) (T' i) (T' j)) (h3 : ∀ i, i < zFn w h g st → ∃ j, j < zFn w h g st ∧ zTr w h g st j = T' i) (h4 : ∀ j, j < zFn w h g st → ∃ i, i < zFn w h g st ∧ T' i = zTr w h g st j) : FT2 w h g st T' := by
  refine ⟨Nat.le_refl _, fun j hj => ?_, h2, fun u hu hc => ?_⟩
  · obtain ⟨i, hi, e⟩ := h3 j hj
    exact ⟨by rw [← e]; exact (h1.2.1 i hi).1, i, hi, e⟩
  · obtain ⟨j, hj, e⟩ := hc
    obtain ⟨i, hi, e2⟩ := h4 j hj
    exact Or.inl ⟨i, hi, e2.trans e⟩
theorem c_grow1 {w h K : Nat} {g st T l : Nat → Nat} {cg cs cl fs fx fy fp fn fo fpf fpl co crg : Nat → Int32} {cr : Nat → Nat → Int32} (hG : RepG cg g) (hS : RepS cs st) (hg : ∀ q, q < 256 → g q ≤ 99) (ho : OKs st) (hw : w ≤ 16) (hh : h ≤ 16) (hs : SHc w h g st) (hL : ∀ s, s < qN w h st → cl (qP w st s) = nI (qMn g st (qP w st s))) (hC : CG w h g st (zRL w h g st).length K T l cr fs fx fy fp fn) (hR : ∀ k', k' < zKn w h g st → crg k' = nI (rgI (zW w h g st) k' 256).length) :
    Rt (f_X1_grow FU cg (nI w) (nI h) cs cl l (nI K) co cr fs fx fy fp fn fo fpf fpl) (fun q => CFd w h g st q.1 (nI K) crg q.2.2.1 fs fx fy fp fn q.2.2.2.1 q.2.2.2.2.1 q.2.2.2.2.2 ∧ LPm q.1) := by
  obtain ⟨ht, hl, hf⟩ := hC
  have hne := top_ne (ahN_sto _) ht
  have hK := ht.1
  unfold f_X1_grow
  refine c_gw3 (T := T) hG hS hg ho hw hh hs hL hK (fun i hi => (ht.2.1 i hi).1) hne K 0 FU T l co cr fo fpf fpl (by omega) (by unfold FU; omega) ⟨hl, fun i hi => by omega, fun i _ hi => hf i hi, fun i j _ hj => by omega, fun i hi => by omega, fun i hi => by omega⟩ ?_
  intro z T' l' co' cr' fo' fpf' fpl' hz
  obtain ⟨y1, y2, y3, y4, y5, y6⟩ := hz
  obtain ⟨c1, c2, c3⟩ := ft1_can ht
  subst c2
  have h2 : FT2 w h g st T' := by
    refine sorted_ft2 c1 y4 (fun i hi => ?_) (fun j hj => ?_)
    · obtain ⟨j, hj, e⟩ := y5 i hi
      exact ⟨j, hj, by rw [← c3 j hj]; exact e⟩
    · obtain ⟨i, hi, e⟩ := y6 j hj
      exact ⟨i, hi, by rw [← c3 j hj]; exact e⟩
  obtain ⟨d1, d2⟩ := ft2_can h2
  have d3 : ∀ j, j < zFn w h g st → ∃ i, i < zFn w h g st ∧ zTf w h g st i = zTr w h g st j := by
    intro j hj
    obtain ⟨i, hi, e⟩ := y6 j hj
    exact ⟨i, hi, by rw [← d2 i hi, ← c3 j hj]; exact e⟩
  refine rt_some ⟨⟨⟨c1, d1, d3⟩, rfl, fun k hk => ?_, hR⟩, y1⟩
  rw [← d2 k hk]
  exact y2 k hk
/-! the reference: the places of a finding -/
def MIn (c : Nat → Int32) (f : Nat) (A : Nat → Prop) : Prop := ∀ q, q < 256 → (A q → c (256 * f + q) = 1) ∧ (¬ A q → c (256 * f + q) = 0)
theorem min_cong {c : Nat → Int32} {f : Nat} {A B : Nat → Prop} (h : MIn c f A) (e : ∀ q, q < 256 → (A q ↔ B q)) : MIn c f B := fun q hq => ⟨fun z => (h q hq).1 ((e q hq).mpr z), fun z => (h q hq).2 (fun y => z ((e q hq).mp y))⟩
theorem min_0 {c : Nat → Int32} {f : Nat} {A : Nat → Prop} (h : MIn c f A) {q : Nat} (hq : q < 256) : c (256 * f + q) = 0 ↔ ¬ A q := by
  constructor
  · intro e z
    rw [(h q hq).1 z] at e
    exact absurd e (by decide)
  · exact (h q hq).2
theorem min_put {c : Nat → Int32} {f : Nat} {A : Nat → Prop} (h : MIn c f A) {p : Nat} (hp : p < 256) : MIn (upd c (256 * f + p) 1) f (fun q => A q ∨ q = p) := by
  intro q hq
  by_cases e : q = p
  · subst e
    exact ⟨fun _ => by simp [upd], fun z => absurd (Or.inr rfl) z⟩
  · have ne : 256 * f + q ≠ 256 * f + p := by omega
    simp only [upd, ne, if_false]
    exact ⟨fun z => (h q hq).1 (z.resolve_right e), fun z => (h q hq).2 (fun y => z (Or.inl y))⟩
theorem nar1 : vp_nar .boolean 1 = 1 := rfl
theorem nar0 : vp_nar .boolean 0 = 0 := rfl
theorem m_manyIn {f : Nat} {c : Nat → Int32} {A : Nat → Prop} (hf : f < 24) (hA : MIn c f A) : f_X8_manyIn FU c (nI f) = some (nI (cnt A)) := by
  have go : ∀ (d q fuel : Nat), q + d = 256 → d < fuel → f_X8_manyIn_L4 FU (nI f) c (fun (x2_1 : Int32) (x3_2 : Int32) => some x2_1) fuel (nI (fb_ct (dB A) q)) (nI q) = some (nI (cnt A)) := by
    intro d
    induction d with
    | zero =>
      intro q fuel e1 e2
      obtain ⟨f, rfl⟩ : ∃ f, fuel = f + 1 := ⟨fuel - 1, by omega⟩
      have eq : q = 256 := by omega
      subst eq
      rw [f_X8_manyIn_L4, if_pos (by rw [show (256 : Int32) = nI 256 from rfl]; exact (by rw [n_le (by omega) (by omega)]; omega))]
      rfl
    | succ d ih =>
      intro q fuel e1 e2
      obtain ⟨f, rfl⟩ : ∃ f, fuel = f + 1 := ⟨fuel - 1, by omega⟩
      rw [f_X8_manyIn_L4, if_neg (by rw [show (256 : Int32) = nI 256 from rfl]; exact (by rw [n_le (by omega) (by omega)]; omega)), show (256 : Int32) = nI 256 from rfl, pk_mul, nI_add, rd_ok (by omega) (by omega)]
      have key := ih (q + 1) f (by omega) (by omega)
      rw [fb_ct_succ, ← nI_add] at key
      unfold jn
      dsimp only
      rw [nI_1]
      by_cases c1 : A q
      · rw [if_neg (by rw [min_0 hA (by omega)]; exact fun z => z c1)]
        rw [dB_t.mpr c1, if_pos rfl] at key
        exact key
      · rw [if_pos ((min_0 hA (by omega)).mpr c1)]
        have hn : ¬ dB A q = true := fun z => c1 (dB_t.mp z)
        rw [if_neg hn] at key
        exact key
  unfold f_X8_manyIn
  exact go 256 0 FU (by omega) (by unfold FU; omega)
