/-! the reference: copies, misses -/
theorem zRL_1024 {w h : Nat} {g st : Nat → Nat} (hs : SHc w h g st) : (zRL w h g st).length ≤ 1024 := by
  have := rgO_len (W := zW w h g st) (zKn w h g st)
  have := hs.K8
  unfold zRL
  omega
/-- what the reference's finding f needs of what was found before -/
def MF (w h : Nat) (g st : Nat → Nat) (cx cy crs crof : Nat → Int32) (f r : Nat) : Prop := f < 24 ∧ r < (zRL w h g st).length ∧ SHc w h g st ∧ RX (zT w h g st) (zKn w h g st) cx cy ∧ RLs (0, 0) (fun e => e.1) (zRL w h g st) crs ∧ crof f = nI r
theorem m_shiftOf {FU w h f r : Nat} {g st : Nat → Nat} {cx cy crs crof : Nat → Int32} (hm : MF w h g st cx cy crs crof f r) : f_X8_shiftOf FU crs crof (nI f) = some (nI (zE2 w h g st r).1) := by
  obtain ⟨h1, h2, h3, h4, h5, h6⟩ := hm
  have := zRL_1024 h3
  have e5 : crs r = nI (zE2 w h g st r).1 := h5 r h2
  unfold f_X8_shiftOf
  rw [rd_ok (by omega) (by omega), h6, rd_ok (by omega) (by omega), e5]
theorem m_copyOf {FU w h f r p : Nat} {g st : Nat → Nat} {cx cy crs crof : Nat → Int32} (hw : w ≤ 16) (hh : h ≤ 16) (hw1 : 1 ≤ w) (hh1 : 1 ≤ h) (hm : MF w h g st cx cy crs crof f r) (hp : p < 256) :
    (cpI w h (zv w h g st r) p → f_X8_copyOf FU (nI w) (nI h) cx cy crs crof (nI f) (nI p) = some (nI (cpP (zv w h g st r) p))) ∧ (¬ cpI w h (zv w h g st r) p → f_X8_copyOf FU (nI w) (nI h) cx cy crs crof (nI f) (nI p) = some (-9)) := by
  have hK := hm.2.2.1.K8
  have me := (zE2_mem hm.2.1).1
  have hv := zv_496 hm.2.2.1 hm.2.1
  have e1 : cx (zE2 w h g st r).1 = nI (zv w h g st r % 31) - 15 := (hm.2.2.2.1 _ me).1
  have e2 : cy (zE2 w h g st r).1 = nI (zv w h g st r / 31) := (hm.2.2.2.1 _ me).2
  unfold f_X8_copyOf
  rw [m_shiftOf hm, bd1_s, rd_ok (by omega) (by omega), e1, bd1_s, rd_ok (by omega) (by omega), e2, md16 (by omega), dv16 (by omega)]
  constructor
  · intro hc
    have hI := cp_in hp hc
    rw [pl_t hw hh hI, bd1_s, if_neg (by decide), hI.2.2.1, nI_add, show (16 : Int32) = nI 16 from rfl, pk_mul, nI_add]
    rfl
  · intro hc
    rw [pl_f hw hh hw1 hh1 (cp_out hw hh hp hv hc), bd1_s, if_pos rfl]
theorem m_missOf {FU w h f r p : Nat} {g st : Nat → Nat} {cg cx cy crs crof cof : Nat → Int32} (hw : w ≤ 16) (hh : h ≤ 16) (hw1 : 1 ≤ w) (hh1 : 1 ≤ h) (hG : RepG cg g) (hg : ∀ q, q < 256 → g q ≤ 99) (hm : MF w h g st cx cy crs crof f r) (ho : (cof f).toInt = zOf w h g st r) (hp : p < 256) (hc : cpI w h (zv w h g st r) p) : f_X8_missOf FU (nI w) (nI h) cg cx cy crs crof cof (nI f) (nI p) = some (nI (mi g (zv w h g st r) (zOf w h g st r) p)) := by
  have hq := cpP_256 hw hh hc
  have hf := hm.1
  have h1 := hg _ hq
  have h2 := hg _ hp
  have h3 := zOf_99 w h g st r
  unfold f_X8_missOf
  rw [(m_copyOf hw hh hw1 hh1 hm hp).1 hc, bd1_s, rd_ok hq (by omega), rd_ok hp (by omega), rd_ok (by omega) (by omega), hG _ hq, hG _ hp, (sz_nat (mi_z rfl rfl ho h1 h2 h3) (by omega)).1, bd1_s]
  rfl
theorem m_darkAt {w h s : Nat} {g st : Nat → Nat} {csq cd cl : Nat → Int32} (ho : OKs st) (hw : w ≤ 16) (hh : h ≤ 16) (hM : MS w g st (qN w h st) csq cd cl) (hs : s < qN w h st) : f_X8_darkAt FU (nI (qN w h st)) csq cd (nI (qP w st s)) = some (nI (qMn g st (qP w st s))) := by
  have hN := qN_225 (w := w) (h := h) ho hw hh
  have q1 := qP_256 ho hw hh hs
  have go : ∀ (d t fuel : Nat), t + d = s → d < fuel → f_X8_darkAt_L2 FU (nI (qP w st s)) (nI (qN w h st)) csq cd (fun (_ : Int32) => some (-9)) fuel (nI t) = some (nI (qMn g st (qP w st s))) := by
    intro d
    induction d with
    | zero =>
      intro t fuel e1 e2
      obtain ⟨f, rfl⟩ : ∃ f, fuel = f + 1 := ⟨fuel - 1, by omega⟩
      have et : t = s := by omega
      subst et
      rw [f_X8_darkAt_L2, if_neg (by rw [n_le (by omega) (by omega)]; omega), rd_ok (by omega) (by omega), (hM t hs).1, if_pos rfl, rd_ok (by omega) (by omega), (hM t hs).2.1]
    | succ d ih =>
      intro t fuel e1 e2
      obtain ⟨f, rfl⟩ : ∃ f, fuel = f + 1 := ⟨fuel - 1, by omega⟩
      have ht : t < qN w h st := by omega
      have q2 := qP_256 ho hw hh ht
      rw [f_X8_darkAt_L2, if_neg (by rw [n_le (by omega) (by omega)]; omega), rd_ok (by omega) (by omega), (hM t ht).1, if_neg (by rw [n_inj (by omega) (by omega)]; intro z; have := qP_inj (h := h) ho hw ht hs z; omega), nI_1]
      exact ih (t + 1) f (by omega) (by omega)
  unfold f_X8_darkAt
  exact go s 0 FU (by omega) (by unfold FU; omega)
/-! the reference: the first places of a finding -/
theorem m_bf56 {f : Nat} {kk : _} {P : _} (hf : f < 24) : ∀ (d q fuel : Nat) (c : Nat → Int32), q + d = 256 → d < fuel → (∀ x, x < q → c (256 * f + x) = 0) → (∀ (z : Int32) (c' : Nat → Int32), MIn c' f (fun _ => False) → (∀ f' x, f' ≠ f → x < 256 → c' (256 * f' + x) = c (256 * f' + x)) → Rt (kk z c') P) → Rt (f_X8_beginsFinding_L56 FU (nI f) kk fuel (nI q) c) P := by
  intro d
  induction d with
  | zero =>
    intro q fuel c e1 e2 hc hk
    obtain ⟨f, rfl⟩ : ∃ f, fuel = f + 1 := ⟨fuel - 1, by omega⟩
    rw [f_X8_beginsFinding_L56]
    exact rt_t (by rw [show (256 : Int32) = nI 256 from rfl]; exact (by rw [n_le (by omega) (by omega)]; omega)) (hk _ _ (fun x hx => ⟨fun z => absurd z (fun y => y), fun _ => hc x (by omega)⟩) (fun _ _ _ _ => rfl))
  | succ d ih =>
    intro q fuel c e1 e2 hc hk
    obtain ⟨f, rfl⟩ : ∃ f, fuel = f + 1 := ⟨fuel - 1, by omega⟩
    rw [f_X8_beginsFinding_L56]
    refine rt_f (by rw [show (256 : Int32) = nI 256 from rfl]; exact (by rw [n_le (by omega) (by omega)]; omega)) ?_
    rw [show (256 : Int32) = nI 256 from rfl, pk_mul, nI_add, wrz_ok (by omega) (by omega), nI_1, nar0]
    refine ih (q + 1) f _ (by omega) (by omega) (fun x hx => ?_) ?_
    · by_cases e : x = q
      · subst e; simp [upd]
      · have ne : 256 * f + x ≠ 256 * f + q := by omega
        sorry
    · intro z c' z1 z2
      refine hk z c' z1 (fun f' x hf' hx => (z2 f' x hf' hx).trans ?_)
      sorry
