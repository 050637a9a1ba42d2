/-! the reference numbers its findings -/
noncomputable def ctA (w h : Nat) (g st T : Nat → Nat) (x : Nat) : Nat → Bool := dB (fun u => ahN (zHd w h g st) (T u) x)
theorem ctA_t {w h : Nat} {g st T : Nat → Nat} {x u : Nat} : ctA w h g st T x u = true ↔ ahN (zHd w h g st) (T u) x := by unfold ctA; exact dB_t
theorem m_ff102 {w h i n : Nat} {g st T : Nat → Nat} {crs crf crp cra crof cof cbg chd cin : Nat → Int32} {nr : Int32} {kk : _} {P : _} (hs : SHc w h g st) (hR : MRs w h g st cra nr crs crp crf) (hn : n ≤ 24) (hi : i < n) (hT : ∀ i, i < n → T i < (zRL w h g st).length) (hF : ∀ i, i < n → MF1 w h g st crof cof cbg chd cin i (T i)) :
    ∀ (d u fuel : Nat), u + d = n → d < fuel → (∀ z : Int32, Rt (kk (nI (fb_ct (ctA w h g st T (T i)) n)) z) P) → Rt (f_X8_findFindings_L102 FU (nI i) crs crf (nI n) crof chd kk fuel (nI (fb_ct (ctA w h g st T (T i)) u)) (nI u)) P := by
  intro d
  induction d with
  | zero =>
    intro u fuel e1 e2 hk
    obtain ⟨f, rfl⟩ : ∃ f, fuel = f + 1 := ⟨fuel - 1, by omega⟩
    have eu : u = n := by omega
    subst eu
    rw [f_X8_findFindings_L102]
    exact rt_t (by rw [n_le (by omega) (by omega)]; omega) (hk _)
  | succ d ih =>
    intro u fuel e1 e2 hk
    obtain ⟨f, rfl⟩ : ∃ f, fuel = f + 1 := ⟨fuel - 1, by omega⟩
    rw [f_X8_findFindings_L102]
    refine rt_f (by rw [n_le (by omega) (by omega)]; omega) ?_
    refine rt_bd1 (m_fAhead hs hR (by omega) (by omega) (hT u (by omega)) (hT i hi) (hF u (by omega)) (hF i hi)) ?_
    intro v hv
    have key := ih (u + 1) f (by omega) (by omega) hk
    rw [fb_ct_succ, ← nI_add] at key
    refine rt_jn ?_
    dsimp only
    rw [nI_1]
    refine rt_if (fun c => ?_) (fun c => ?_)
    · have hn : ¬ ctA w h g st T (T i) u = true := fun z => hv.mp c (ctA_t.mp z)
      rw [if_neg hn] at key
      exact key
    · have hy : ctA w h g st T (T i) u = true := ctA_t.mpr (Classical.byContradiction (fun z => c (hv.mpr z)))
      rw [hy, if_pos rfl] at key
      exact key
/-- how many are ahead of one: its number -/
theorem fd_num {w h : Nat} {g st : Nat → Nat} (hf : FDc w h g st) {i k : Nat} (hi : i < zFn w h g st) (hk : k < zFn w h g st) (e : zTf w h g st k = zTr w h g st i) : fb_ct (ctA w h g st (zTr w h g st) (zTr w h g st i)) (zFn w h g st) = k := by
  obtain ⟨h1, h2, h3⟩ := hf
  have hsto := ahN_sto (zHd w h g st)
  have ne1 := top_ne (ahN_sto _) h1
  have ne2 := top_ne hsto h2
  have hidx : ∀ j, ∃ i', j < zFn w h g st → i' < zFn w h g st ∧ zTr w h g st i' = zTf w h g st j := by
    intro j
    by_cases hj : j < zFn w h g st
    · obtain ⟨i', z1, z2⟩ := (h2.2.1 j hj).2
      exact ⟨i', fun _ => ⟨z1, z2⟩⟩
    · exact ⟨0, fun z => absurd z hj⟩
  have inj1 : ∀ a b, a < zFn w h g st → b < zFn w h g st → zTr w h g st a = zTr w h g st b → a = b := by
    intro a b ha hb z
    rcases Nat.lt_trichotomy a b with y | y | y
    · exact absurd z (ne1 a b y hb)
    · exact y
    · exact absurd z.symm (ne1 b a y ha)
  refine ct_img (T := fun j => Classical.choose (hidx j)) k _ (fun j hj => (Classical.choose_spec (hidx j) (by omega)).1) ?_ ?_
  · intro a b hab hb z
    have e1 := (Classical.choose_spec (hidx a) (by omega)).2
    have e2 := (Classical.choose_spec (hidx b) (by omega)).2
    rw [z] at e1
    exact ne2 a b hab (by omega) (e1.symm.trans e2)
  · intro u hu
    unfold ctA
    rw [dB_t]
    constructor
    · intro z
      obtain ⟨j, hj, ej⟩ := h3 u hu
      rw [← ej, ← e] at z
      have hjk : j < k := by
        rcases Nat.lt_trichotomy j k with y | y | y
        · exact y
        · subst y; exact absurd z (hsto.1 _)
        · exact absurd (hsto.2.1 _ _ _ z (h2.2.2.1 k j y hj)) (hsto.1 _)
      obtain ⟨q1, q2⟩ := Classical.choose_spec (hidx j) hj
      exact ⟨j, hjk, inj1 _ _ q1 hu (q2.trans ej)⟩
    · rintro ⟨j, hj, ej⟩
      obtain ⟨q1, q2⟩ := Classical.choose_spec (hidx j) (by omega)
      rw [ej] at q2
      rw [q2, ← e]
      exact h2.2.2.1 j k hj hk
theorem m_ff89 {w h : Nat} {g st : Nat → Nat} {crs crf crp cra crof cof cbg chd cin : Nat → Int32} {nr : Int32} {kk : _} {P : _} (hs : SHc w h g st) (hf : FDc w h g st) (hR : MRs w h g st cra nr crs crp crf) (hF : ∀ i, i < zFn w h g st → MF1 w h g st crof cof cbg chd cin i (zTr w h g st i)) :
    ∀ (d i fuel : Nat) (cn : Nat → Int32), i + d = zFn w h g st → d < fuel → (∀ k i', k < zFn w h g st → i' < i → zTf w h g st k = zTr w h g st i' → cn k = nI i') → (∀ (z : Int32) (cn : Nat → Int32), (∀ k i', k < zFn w h g st → i' < zFn w h g st → zTf w h g st k = zTr w h g st i' → cn k = nI i') → Rt (kk z cn) P) → Rt (f_X8_findFindings_L89 FU crs crf (nI (zFn w h g st)) crof chd kk fuel (nI i) cn) P := by
  have h24 := hf.n24
  have ne1 := top_ne (ahN_sto _) hf.1
  have ne2 := top_ne (ahN_sto _) hf.2.1
  intro d
  induction d with
  | zero =>
    intro i fuel cn e1 e2 hc hk
    obtain ⟨f, rfl⟩ : ∃ f, fuel = f + 1 := ⟨fuel - 1, by omega⟩
    have ei : i = zFn w h g st := by omega
    subst ei
    rw [f_X8_findFindings_L89]
    exact rt_t (by rw [n_le (by omega) (by omega)]; omega) (hk _ _ hc)
  | succ d ih =>
    intro i fuel cn e1 e2 hc hk
    obtain ⟨f, rfl⟩ : ∃ f, fuel = f + 1 := ⟨fuel - 1, by omega⟩
    rw [f_X8_findFindings_L89]
    refine rt_f (by rw [n_le (by omega) (by omega)]; omega) ?_
    have hi : i < zFn w h g st := by omega
    obtain ⟨k0, hk0, ek0⟩ := hf.2.2 i hi
    refine m_ff102 hs hR h24 hi (fun i' hi' => (hf.1.2.1 i' hi').1) hF (zFn w h g st) 0 FU (by omega) (by unfold FU; omega) ?_
    intro z
    rw [fd_num hf hi hk0 ek0, wr_ok (by omega) (by omega), nI_1]
    refine ih (i + 1) f _ (by omega) (by omega) (fun k i' hk' hi' e => ?_) hk
    by_cases ei : i' = i
    · subst ei
      have ekk : k = k0 := by
        rcases Nat.lt_trichotomy k k0 with y | y | y
        · exact absurd (e.trans ek0.symm) (ne2 k k0 y hk0)
        · exact y
        · exact absurd (ek0.trans e.symm) (ne2 k0 k y hk')
      subst ekk
      simp only [upd, if_true]
    · have ekk : k ≠ k0 := by
        intro y
        subst y
        rw [ek0] at e
        exact ne1 i' i (by omega) hi e.symm
      simp only [upd, ekk, if_false]
      exact hc k i' hk' (by omega) e
def MFd (w h : Nat) (g st : Nat → Nat) (nf : Int32) (crof cof cbg chd cin cnum : Nat → Int32) : Prop :=
  FDc w h g st ∧ nf = nI (zFn w h g st) ∧ (∀ i, i < zFn w h g st → MF1 w h g st crof cof cbg chd cin i (zTr w h g st i)) ∧ (∀ k, k < zFn w h g st → ∃ i, i < zFn w h g st ∧ cnum k = nI i ∧ zTr w h g st i = zTf w h g st k)
/-! what the reference holds -/
def MAll (w h : Nat) (g st : Nat → Nat) (om : Nat) (m_squares : Int32) (m_square : Nat → Int32) (m_dark : Nat → Int32) (m_light : Nat → Int32) (m_like : Nat → Int32) (m_isCrowded : Nat → Int32) (m_pairs : Int32) (m_first : Nat → Int32) (m_second : Nat → Int32) (m_votes : Nat → Int32) (m_shifts : Int32) (m_shiftX : Nat → Int32) (m_shiftY : Nat → Int32) (m_regionAt : Nat → Int32) (m_regions : Int32) (m_regionShift : Nat → Int32) (m_regionPairs : Nat → Int32) (m_regionFirst : Nat → Int32) (m_findings : Int32) (m_regionOf : Nat → Int32) (m_offset : Nat → Int32) (m_begun : Nat → Int32) (m_held : Nat → Int32) (m_isIn : Nat → Int32) (m_numbered : Nat → Int32) : Prop :=
  om ≤ 5 ∧ (1 ≤ om → MSq w h g st m_squares m_square m_dark m_light m_like) ∧ (2 ≤ om → MPr w h g st m_isCrowded m_pairs m_first m_second m_votes) ∧ (3 ≤ om → MSh w h g st m_shifts m_shiftX m_shiftY) ∧ (4 ≤ om → MRs w h g st m_regionAt m_regions m_regionShift m_regionPairs m_regionFirst) ∧ (5 ≤ om → MFd w h g st m_findings m_regionOf m_offset m_begun m_held m_isIn m_numbered)
def Cor (w h : Nat) (g st : Nat → Nat) (cg cs : Nat → Int32) : Prop := PicOK w h g st ∧ RepG cg g ∧ RepS cs st
theorem Cor.w {w h : Nat} {g st : Nat → Nat} {cg cs : Nat → Int32} (hC : Cor w h g st cg cs) : w ≤ 16 := hC.1.2.1
theorem Cor.h {w h : Nat} {g st : Nat → Nat} {cg cs : Nat → Int32} (hC : Cor w h g st cg cs) : h ≤ 16 := hC.1.2.2.2.1
theorem Cor.w1 {w h : Nat} {g st : Nat → Nat} {cg cs : Nat → Int32} (hC : Cor w h g st cg cs) : 1 ≤ w := hC.1.1
theorem Cor.h1 {w h : Nat} {g st : Nat → Nat} {cg cs : Nat → Int32} (hC : Cor w h g st cg cs) : 1 ≤ h := hC.1.2.2.1
theorem Cor.g {w h : Nat} {g st : Nat → Nat} {cg cs : Nat → Int32} (hC : Cor w h g st cg cs) : ∀ q, q < 256 → g q ≤ 99 := hC.1.2.2.2.2.1
theorem Cor.o {w h : Nat} {g st : Nat → Nat} {cg cs : Nat → Int32} (hC : Cor w h g st cg cs) : OKs st := hC.1.2.2.2.2.2
theorem m_findSquares1 {w h om : Nat} {g st : Nat → Nat} {m_squares : Int32} {cg cs csq cd cl ck : Nat → Int32} (hG : RepG cg g) (hS : RepS cs st) (hg : ∀ q, q < 256 → g q ≤ 99) (ho : OKs st) (hw : w ≤ 16) (hh : h ≤ 16) (hom : om ≤ 5) (hc : 1 ≤ om → MSq w h g st m_squares csq cd cl ck) :
    Rt (f_X8_findSquares FU (nI om) (nI w) (nI h) cg cs m_squares csq cd cl ck) (fun q => q.1 = nI (max om 1) ∧ MSq w h g st q.2.1 q.2.2.1 q.2.2.2.1 q.2.2.2.2.1 q.2.2.2.2.2) := by
  unfold f_X8_findSquares
  by_cases e : om = 0
  · subst e
    refine rt_t (by decide) ?_
    refine m_fs20 hG hS hg ho hw hh (qA h st) 0 FU csq cd cl (by omega) (by have := qA_15 ho hh; unfold FU; omega) (fun s hs => by simp at hs) ?_
    intro z csq' cd' cl' hM'
    refine m_fs213 (cl := cl') hG hS hg ho hw hh hM' (qN w h st) 0 FU ck (by omega) (by have := qN_225 (w := w) (h := h) ho hw hh; unfold FU; omega) (fun s hs => by omega) ?_
    intro z2 ck' hL
    exact rt_some ⟨rfl, ⟨rfl, hM', hL⟩⟩
  · refine rt_f (by rw [show (0 : Int32) = nI 0 from rfl]; exact (by rw [n_le (by omega) (by omega)]; omega)) ?_
    exact rt_some ⟨by rw [show max om 1 = om by omega], hc (by omega)⟩
theorem ma1 {w h om : Nat} {g st : Nat → Nat} {m_grey m_setting : Nat → Int32} {m_squares : Int32} {m_square : Nat → Int32} {m_dark : Nat → Int32} {m_light : Nat → Int32} {m_like : Nat → Int32} {m_isCrowded : Nat → Int32} {m_pairs : Int32} {m_first : Nat → Int32} {m_second : Nat → Int32} {m_votes : Nat → Int32} {m_shifts : Int32} {m_shiftX : Nat → Int32} {m_shiftY : Nat → Int32} {m_regionAt : Nat → Int32} {m_regions : Int32} {m_regionShift : Nat → Int32} {m_regionPairs : Nat → Int32} {m_regionFirst : Nat → Int32} {m_findings : Int32} {m_regionOf : Nat → Int32} {m_offset : Nat → Int32} {m_begun : Nat → Int32} {m_held : Nat → Int32} {m_isIn : Nat → Int32} {m_numbered : Nat → Int32} (hC : Cor w h g st m_grey m_setting) (hM : MAll w h g st om m_squares m_square m_dark m_light m_like m_isCrowded m_pairs m_first m_second m_votes m_shifts m_shiftX m_shiftY m_regionAt m_regions m_regionShift m_regionPairs m_regionFirst m_findings m_regionOf m_offset m_begun m_held m_isIn m_numbered) :
    ∃ (om' : Nat) (m_squares' : Int32) (m_square' : Nat → Int32) (m_dark' : Nat → Int32) (m_light' : Nat → Int32) (m_like' : Nat → Int32), f_X8_findSquares FU (nI om) (nI w) (nI h) m_grey m_setting m_squares m_square m_dark m_light m_like = some (nI om', m_squares', m_square', m_dark', m_light', m_like') ∧ 1 ≤ om' ∧ MAll w h g st om' m_squares' m_square' m_dark' m_light' m_like' m_isCrowded m_pairs m_first m_second m_votes m_shifts m_shiftX m_shiftY m_regionAt m_regions m_regionShift m_regionPairs m_regionFirst m_findings m_regionOf m_offset m_begun m_held m_isIn m_numbered := by
  obtain ⟨h0, h1, h2, h3, h4, h5⟩ := hM
  obtain ⟨⟨a0, m_squares', m_square', m_dark', m_light', m_like'⟩, e, z1, z2⟩ := m_findSquares1 hC.2.1 hC.2.2 hC.g hC.o hC.w hC.h h0 h1
  dsimp only at z1 z2
  subst z1
  exact ⟨max om 1, _, _, _, _, _, e, (by omega), (by omega), fun _ => z2, fun q => h2 (by omega), fun q => h3 (by omega), fun q => h4 (by omega), fun q => h5 (by omega)⟩
theorem ma2 {w h om : Nat} {g st : Nat → Nat} {m_grey m_setting : Nat → Int32} {m_squares : Int32} {m_square : Nat → Int32} {m_dark : Nat → Int32} {m_light : Nat → Int32} {m_like : Nat → Int32} {m_isCrowded : Nat → Int32} {m_pairs : Int32} {m_first : Nat → Int32} {m_second : Nat → Int32} {m_votes : Nat → Int32} {m_shifts : Int32} {m_shiftX : Nat → Int32} {m_shiftY : Nat → Int32} {m_regionAt : Nat → Int32} {m_regions : Int32} {m_regionShift : Nat → Int32} {m_regionPairs : Nat → Int32} {m_regionFirst : Nat → Int32} {m_findings : Int32} {m_regionOf : Nat → Int32} {m_offset : Nat → Int32} {m_begun : Nat → Int32} {m_held : Nat → Int32} {m_isIn : Nat → Int32} {m_numbered : Nat → Int32} (hC : Cor w h g st m_grey m_setting) (hM : MAll w h g st om m_squares m_square m_dark m_light m_like m_isCrowded m_pairs m_first m_second m_votes m_shifts m_shiftX m_shiftY m_regionAt m_regions m_regionShift m_regionPairs m_regionFirst m_findings m_regionOf m_offset m_begun m_held m_isIn m_numbered) :
    ∃ (om' : Nat) (m_squares' : Int32) (m_square' : Nat → Int32) (m_dark' : Nat → Int32) (m_light' : Nat → Int32) (m_like' : Nat → Int32) (m_isCrowded' : Nat → Int32) (m_pairs' : Int32) (m_first' : Nat → Int32) (m_second' : Nat → Int32) (m_votes' : Nat → Int32), f_X8_findPairs FU (nI om) (nI w) (nI h) m_grey m_setting m_squares m_square m_dark m_light m_like m_isCrowded m_pairs m_first m_second m_votes = some (nI om', m_squares', m_square', m_dark', m_light', m_like', m_isCrowded', m_pairs', m_first', m_second', m_votes') ∧ 2 ≤ om' ∧ MAll w h g st om' m_squares' m_square' m_dark' m_light' m_like' m_isCrowded' m_pairs' m_first' m_second' m_votes' m_shifts m_shiftX m_shiftY m_regionAt m_regions m_regionShift m_regionPairs m_regionFirst m_findings m_regionOf m_offset m_begun m_held m_isIn m_numbered := by
  obtain ⟨h0, h1, h2, h3, h4, h5⟩ := hM
  obtain ⟨⟨a0, m_squares', m_square', m_dark', m_light', m_like', m_isCrowded', m_pairs', m_first', m_second', m_votes'⟩, e, z1, z2, z3, _⟩ := m_findPairs hC.2.1 hC.2.2 hC.g hC.o hC.w hC.h h0 h1 h2
  dsimp only at z1 z2 z3
  subst z1
  exact ⟨max om 2, _, _, _, _, _, _, _, _, _, _, e, (by omega), (by omega), fun _ => z2, fun _ => z3, fun q => h3 (by omega), fun q => h4 (by omega), fun q => h5 (by omega)⟩
theorem ma3 {w h om : Nat} {g st : Nat → Nat} {m_grey m_setting : Nat → Int32} {m_squares : Int32} {m_square : Nat → Int32} {m_dark : Nat → Int32} {m_light : Nat → Int32} {m_like : Nat → Int32} {m_isCrowded : Nat → Int32} {m_pairs : Int32} {m_first : Nat → Int32} {m_second : Nat → Int32} {m_votes : Nat → Int32} {m_shifts : Int32} {m_shiftX : Nat → Int32} {m_shiftY : Nat → Int32} {m_regionAt : Nat → Int32} {m_regions : Int32} {m_regionShift : Nat → Int32} {m_regionPairs : Nat → Int32} {m_regionFirst : Nat → Int32} {m_findings : Int32} {m_regionOf : Nat → Int32} {m_offset : Nat → Int32} {m_begun : Nat → Int32} {m_held : Nat → Int32} {m_isIn : Nat → Int32} {m_numbered : Nat → Int32} (hC : Cor w h g st m_grey m_setting) (hM : MAll w h g st om m_squares m_square m_dark m_light m_like m_isCrowded m_pairs m_first m_second m_votes m_shifts m_shiftX m_shiftY m_regionAt m_regions m_regionShift m_regionPairs m_regionFirst m_findings m_regionOf m_offset m_begun m_held m_isIn m_numbered) :
    ∃ (om' : Nat) (m_squares' : Int32) (m_square' : Nat → Int32) (m_dark' : Nat → Int32) (m_light' : Nat → Int32) (m_like' : Nat → Int32) (m_isCrowded' : Nat → Int32) (m_pairs' : Int32) (m_first' : Nat → Int32) (m_second' : Nat → Int32) (m_votes' : Nat → Int32) (m_shifts' : Int32) (m_shiftX' : Nat → Int32) (m_shiftY' : Nat → Int32), f_X8_findShifts FU (nI om) (nI w) (nI h) m_grey m_setting m_squares m_square m_dark m_light m_like m_isCrowded m_pairs m_first m_second m_votes m_shifts m_shiftX m_shiftY = some (nI om', m_squares', m_square', m_dark', m_light', m_like', m_isCrowded', m_pairs', m_first', m_second', m_votes', m_shifts', m_shiftX', m_shiftY') ∧ 3 ≤ om' ∧ MAll w h g st om' m_squares' m_square' m_dark' m_light' m_like' m_isCrowded' m_pairs' m_first' m_second' m_votes' m_shifts' m_shiftX' m_shiftY' m_regionAt m_regions m_regionShift m_regionPairs m_regionFirst m_findings m_regionOf m_offset m_begun m_held m_isIn m_numbered := by
  obtain ⟨h0, h1, h2, h3, h4, h5⟩ := hM
  obtain ⟨⟨a0, m_squares', m_square', m_dark', m_light', m_like', m_isCrowded', m_pairs', m_first', m_second', m_votes', m_shifts', m_shiftX', m_shiftY'⟩, e, z1, z2, z3, z4, _⟩ := m_findShifts hC.2.1 hC.2.2 hC.g hC.o hC.w hC.h h0 h1 h2 h3
  dsimp only at z1 z2 z3 z4
  subst z1
  exact ⟨max om 3, _, _, _, _, _, _, _, _, _, _, _, _, _, e, (by omega), (by omega), fun _ => z2, fun _ => z3, fun _ => z4, fun q => h4 (by omega), fun q => h5 (by omega)⟩
theorem ma4 {w h om : Nat} {g st : Nat → Nat} {m_grey m_setting : Nat → Int32} {m_squares : Int32} {m_square : Nat → Int32} {m_dark : Nat → Int32} {m_light : Nat → Int32} {m_like : Nat → Int32} {m_isCrowded : Nat → Int32} {m_pairs : Int32} {m_first : Nat → Int32} {m_second : Nat → Int32} {m_votes : Nat → Int32} {m_shifts : Int32} {m_shiftX : Nat → Int32} {m_shiftY : Nat → Int32} {m_regionAt : Nat → Int32} {m_regions : Int32} {m_regionShift : Nat → Int32} {m_regionPairs : Nat → Int32} {m_regionFirst : Nat → Int32} {m_findings : Int32} {m_regionOf : Nat → Int32} {m_offset : Nat → Int32} {m_begun : Nat → Int32} {m_held : Nat → Int32} {m_isIn : Nat → Int32} {m_numbered : Nat → Int32} (hC : Cor w h g st m_grey m_setting) (hM : MAll w h g st om m_squares m_square m_dark m_light m_like m_isCrowded m_pairs m_first m_second m_votes m_shifts m_shiftX m_shiftY m_regionAt m_regions m_regionShift m_regionPairs m_regionFirst m_findings m_regionOf m_offset m_begun m_held m_isIn m_numbered) :
    ∃ (om' : Nat) (m_squares' : Int32) (m_square' : Nat → Int32) (m_dark' : Nat → Int32) (m_light' : Nat → Int32) (m_like' : Nat → Int32) (m_isCrowded' : Nat → Int32) (m_pairs' : Int32) (m_first' : Nat → Int32) (m_second' : Nat → Int32) (m_votes' : Nat → Int32) (m_shifts' : Int32) (m_shiftX' : Nat → Int32) (m_shiftY' : Nat → Int32) (m_regionAt' : Nat → Int32) (m_regions' : Int32) (m_regionShift' : Nat → Int32) (m_regionPairs' : Nat → Int32) (m_regionFirst' : Nat → Int32), f_X8_findRegions FU (nI om) (nI w) (nI h) m_grey m_setting m_squares m_square m_dark m_light m_like m_isCrowded m_pairs m_first m_second m_votes m_shifts m_shiftX m_shiftY m_regionAt m_regions m_regionShift m_regionPairs m_regionFirst = some (nI om', m_squares', m_square', m_dark', m_light', m_like', m_isCrowded', m_pairs', m_first', m_second', m_votes', m_shifts', m_shiftX', m_shiftY', m_regionAt', m_regions', m_regionShift', m_regionPairs', m_regionFirst') ∧ 4 ≤ om' ∧ MAll w h g st om' m_squares' m_square' m_dark' m_light' m_like' m_isCrowded' m_pairs' m_first' m_second' m_votes' m_shifts' m_shiftX' m_shiftY' m_regionAt' m_regions' m_regionShift' m_regionPairs' m_regionFirst' m_findings m_regionOf m_offset m_begun m_held m_isIn m_numbered := by
  obtain ⟨h0, h1, h2, h3, h4, h5⟩ := hM
  obtain ⟨⟨a0, m_squares', m_square', m_dark', m_light', m_like', m_isCrowded', m_pairs', m_first', m_second', m_votes', m_shifts', m_shiftX', m_shiftY', m_regionAt', m_regions', m_regionShift', m_regionPairs', m_regionFirst'⟩, e, z1, z2, z3, z4, z5, _⟩ := m_findRegions hC.2.1 hC.2.2 hC.g hC.o hC.w hC.h hC.w1 hC.h1 h0 h1 h2 h3 h4
  dsimp only at z1 z2 z3 z4 z5
  subst z1
  exact ⟨max om 4, _, _, _, _, _, _, _, _, _, _, _, _, _, _, _, _, _, _, e, (by omega), (by omega), fun _ => z2, fun _ => z3, fun _ => z4, fun _ => z5, fun q => h5 (by omega)⟩
theorem ma5 {w h om : Nat} {g st : Nat → Nat} {m_grey m_setting : Nat → Int32} {m_squares : Int32} {m_square : Nat → Int32} {m_dark : Nat → Int32} {m_light : Nat → Int32} {m_like : Nat → Int32} {m_isCrowded : Nat → Int32} {m_pairs : Int32} {m_first : Nat → Int32} {m_second : Nat → Int32} {m_votes : Nat → Int32} {m_shifts : Int32} {m_shiftX : Nat → Int32} {m_shiftY : Nat → Int32} {m_regionAt : Nat → Int32} {m_regions : Int32} {m_regionShift : Nat → Int32} {m_regionPairs : Nat → Int32} {m_regionFirst : Nat → Int32} {m_findings : Int32} {m_regionOf : Nat → Int32} {m_offset : Nat → Int32} {m_begun : Nat → Int32} {m_held : Nat → Int32} {m_isIn : Nat → Int32} {m_numbered : Nat → Int32} (hC : Cor w h g st m_grey m_setting) (hf : FDc w h g st) (hM : MAll w h g st om m_squares m_square m_dark m_light m_like m_isCrowded m_pairs m_first m_second m_votes m_shifts m_shiftX m_shiftY m_regionAt m_regions m_regionShift m_regionPairs m_regionFirst m_findings m_regionOf m_offset m_begun m_held m_isIn m_numbered) :
    ∃ (om' : Nat) (m_squares' : Int32) (m_square' : Nat → Int32) (m_dark' : Nat → Int32) (m_light' : Nat → Int32) (m_like' : Nat → Int32) (m_isCrowded' : Nat → Int32) (m_pairs' : Int32) (m_first' : Nat → Int32) (m_second' : Nat → Int32) (m_votes' : Nat → Int32) (m_shifts' : Int32) (m_shiftX' : Nat → Int32) (m_shiftY' : Nat → Int32) (m_regionAt' : Nat → Int32) (m_regions' : Int32) (m_regionShift' : Nat → Int32) (m_regionPairs' : Nat → Int32) (m_regionFirst' : Nat → Int32) (m_findings' : Int32) (m_regionOf' : Nat → Int32) (m_offset' : Nat → Int32) (m_begun' : Nat → Int32) (m_held' : Nat → Int32) (m_isIn' : Nat → Int32) (m_numbered' : Nat → Int32), f_X8_findFindings FU (nI om) (nI w) (nI h) m_grey m_setting m_squares m_square m_dark m_light m_like m_isCrowded m_pairs m_first m_second m_votes m_shifts m_shiftX m_shiftY m_regionAt m_regions m_regionShift m_regionPairs m_regionFirst m_findings m_regionOf m_offset m_begun m_held m_isIn m_numbered = some (nI om', m_squares', m_square', m_dark', m_light', m_like', m_isCrowded', m_pairs', m_first', m_second', m_votes', m_shifts', m_shiftX', m_shiftY', m_regionAt', m_regions', m_regionShift', m_regionPairs', m_regionFirst', m_findings', m_regionOf', m_offset', m_begun', m_held', m_isIn', m_numbered') ∧ 5 ≤ om' ∧ MAll w h g st om' m_squares' m_square' m_dark' m_light' m_like' m_isCrowded' m_pairs' m_first' m_second' m_votes' m_shifts' m_shiftX' m_shiftY' m_regionAt' m_regions' m_regionShift' m_regionPairs' m_regionFirst' m_findings' m_regionOf' m_offset' m_begun' m_held' m_isIn' m_numbered' := by
  by_cases c : 5 ≤ om
  · have h0 := hM.1
    refine ⟨om, _, _, _, _, _, _, _, _, _, _, _, _, _, _, _, _, _, _, _, _, _, _, _, _, _, ?_, c, hM⟩
    unfold f_X8_findFindings
    rw [show (4 : Int32) = nI 4 from rfl, if_neg (by rw [n_le (by omega) (by omega)]; omega)]
  · obtain ⟨om1, m_squares', m_square', m_dark', m_light', m_like', m_isCrowded', m_pairs', m_first', m_second', m_votes', m_shifts', m_shiftX', m_shiftY', m_regionAt', m_regions', m_regionShift', m_regionPairs', m_regionFirst', e, hom, hM1⟩ := ma4 hC hM
    have h0 := hM.1
    obtain ⟨g0, g1, g2, g3, g4, g5⟩ := hM1
    have k1 := g1 (by omega)
    have k4 := g4 (by omega)
    obtain ⟨hs, ens, hX⟩ := (g3 (by omega)).can
    have h1024 := zRL_1024 hs
    have main : Rt (f_X8_findFindings FU (nI om) (nI w) (nI h) m_grey m_setting m_squares m_square m_dark m_light m_like m_isCrowded m_pairs m_first m_second m_votes m_shifts m_shiftX m_shiftY m_regionAt m_regions m_regionShift m_regionPairs m_regionFirst m_findings m_regionOf m_offset m_begun m_held m_isIn m_numbered) (fun q => ∃ (m_findings' : Int32) (m_regionOf' : Nat → Int32) (m_offset' : Nat → Int32) (m_begun' : Nat → Int32) (m_held' : Nat → Int32) (m_isIn' : Nat → Int32) (m_numbered' : Nat → Int32), q = (5, m_squares', m_square', m_dark', m_light', m_like', m_isCrowded', m_pairs', m_first', m_second', m_votes', m_shifts', m_shiftX', m_shiftY', m_regionAt', m_regions', m_regionShift', m_regionPairs', m_regionFirst', m_findings', m_regionOf', m_offset', m_begun', m_held', m_isIn', m_numbered') ∧ MFd w h g st m_findings' m_regionOf' m_offset' m_begun' m_held' m_isIn' m_numbered') := by
      unfold f_X8_findFindings
      refine rt_t (by rw [show (4 : Int32) = nI 4 from rfl]; exact (by rw [n_le (by omega) (by omega)]; omega)) ?_
      rw [e, bd19_s, k4.1]
      refine rt_bd1 (m_next (n := 0) (T := fun _ => 0) (Z := zSz w h g st) h1024 (by omega) (fun i hi => by omega) (fun r hr => ⟨k4.2.2.2.1 r hr, cnt_256 _⟩)) ?_
      intro v hv
      obtain ⟨m, b, q1, q2⟩ := hv
      subst q1
      rw [k1.1]
      refine m_ff28 hC.2.1 hC.g hC.2.2 hC.o hC.w hC.h hC.w1 hC.h1 k1.2.1 k4 hs hX 25 0 FU m b (fun _ => 0) m_regionOf m_offset m_begun m_held m_isIn (by omega) (by unfold FU; omega) (by omega) (fun i hi => by omega) (fun i j _ hj => by omega) (fun u _ _ => Or.inr (fun j hj => by omega)) (fun i hi => by omega) q2 ?_
      intro z K T crof cof cbg chd cin hT hF
      obtain ⟨t1, t2, t3⟩ := ft1_can hT
      subst t2
      have hF' : ∀ i, i < zFn w h g st → MF1 w h g st crof cof cbg chd cin i (zTr w h g st i) := fun i hi => by rw [← t3 i hi]; exact hF i hi
      refine m_ff89 hs hf k4 hF' (zFn w h g st) 0 FU m_numbered (by omega) (by have := hf.n24; unfold FU; omega) (fun k i' _ hi' => by omega) ?_
      intro z2 cn hcn
      refine rt_some ⟨nI (zFn w h g st), crof, cof, cbg, chd, cin, cn, ?_, hf, rfl, hF', fun k hk => ?_⟩
      · rfl
      · obtain ⟨j, hj, ej⟩ := (hf.2.1.2.1 k hk).2
        exact ⟨j, hj, hcn k j hk hj ej.symm, ej⟩
    obtain ⟨q, e2, m_findings', m_regionOf', m_offset', m_begun', m_held', m_isIn', m_numbered', e3, e4⟩ := main
    subst e3
    exact ⟨5, m_squares', m_square', m_dark', m_light', m_like', m_isCrowded', m_pairs', m_first', m_second', m_votes', m_shifts', m_shiftX', m_shiftY', m_regionAt', m_regions', m_regionShift', m_regionPairs', m_regionFirst', m_findings', m_regionOf', m_offset', m_begun', m_held', m_isIn', m_numbered', e2, (by omega), (by omega), fun _ => k1, fun _ => g2 (by omega), fun _ => g3 (by omega), fun _ => k4, fun _ => e4⟩
