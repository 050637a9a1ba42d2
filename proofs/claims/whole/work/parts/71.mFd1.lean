/-! the reference: copies, misses -/
theorem zRL_1024 {w h : Nat} {g st : Nat → Nat} (hs : SHc w h g st) : (zRL w h g st).length ≤ 1024 := by
  have := rgO_len (W := zW w h g st) (zKn w h g st)
  have := hs.K8
  unfold zRL
  omega
/-- what the reference's finding f needs of what was found before -/
def MF (w h : Nat) (g st : Nat → Nat) (cx cy crs crof : Nat → Int32) (f r : Nat) : Prop := f < 24 ∧ r < (zRL w h g st).length ∧ SHc w h g st ∧ RX (zT w h g st) (zKn w h g st) cx cy ∧ RLs (0, 0) (fun e => e.1) (zRL w h g st) crs ∧ crof f = nI r
theorem m_shiftOf {FU w h f r : Nat} {g st : Nat → Nat} {cx cy crs crof : Nat → Int32} (hm : MF w h g st cx cy crs crof f r) : f_X8_shiftOf FU crs crof (nI f) = some (nI (zE2 w h g st r).1) := by
  obtain ⟨h1, h2, h3, h4, h5, h6⟩ := hm
  have := zRL_1024 h3
  have e5 : crs r = nI (zE2 w h g st r).1 := h5 r h2
  unfold f_X8_shiftOf
  rw [rd_ok (by omega) (by omega), h6, rd_ok (by omega) (by omega), e5]
theorem m_copyOf {FU w h f r p : Nat} {g st : Nat → Nat} {cx cy crs crof : Nat → Int32} (hw : w ≤ 16) (hh : h ≤ 16) (hw1 : 1 ≤ w) (hh1 : 1 ≤ h) (hm : MF w h g st cx cy crs crof f r) (hp : p < 256) :
    (cpI w h (zv w h g st r) p → f_X8_copyOf FU (nI w) (nI h) cx cy crs crof (nI f) (nI p) = some (nI (cpP (zv w h g st r) p))) ∧ (¬ cpI w h (zv w h g st r) p → f_X8_copyOf FU (nI w) (nI h) cx cy crs crof (nI f) (nI p) = some (-9)) := by
  have hK := hm.2.2.1.K8
  have me := (zE2_mem hm.2.1).1
  have hv := zv_496 hm.2.2.1 hm.2.1
  have e1 : cx (zE2 w h g st r).1 = nI (zv w h g st r % 31) - 15 := (hm.2.2.2.1 _ me).1
  have e2 : cy (zE2 w h g st r).1 = nI (zv w h g st r / 31) := (hm.2.2.2.1 _ me).2
  unfold f_X8_copyOf
  rw [m_shiftOf hm, bd1_s, rd_ok (by omega) (by omega), e1, bd1_s, rd_ok (by omega) (by omega), e2, md16 (by omega), dv16 (by omega)]
  constructor
  · intro hc
    have hI := cp_in hp hc
    rw [pl_t hw hh hI, bd1_s, if_neg (by decide), hI.2.2.1, nI_add, show (16 : Int32) = nI 16 from rfl, pk_mul, nI_add]
    rfl
  · intro hc
    rw [pl_f hw hh hw1 hh1 (cp_out hw hh hp hv hc), bd1_s, if_pos rfl]
theorem m_missOf {FU w h f r p : Nat} {g st : Nat → Nat} {cg cx cy crs crof cof : Nat → Int32} (hw : w ≤ 16) (hh : h ≤ 16) (hw1 : 1 ≤ w) (hh1 : 1 ≤ h) (hG : RepG cg g) (hg : ∀ q, q < 256 → g q ≤ 99) (hm : MF w h g st cx cy crs crof f r) (ho : (cof f).toInt = zOf w h g st r) (hp : p < 256) (hc : cpI w h (zv w h g st r) p) : f_X8_missOf FU (nI w) (nI h) cg cx cy crs crof cof (nI f) (nI p) = some (nI (mi g (zv w h g st r) (zOf w h g st r) p)) := by
  have hq := cpP_256 hw hh hc
  have hf := hm.1
  have h1 := hg _ hq
  have h2 := hg _ hp
  have h3 := zOf_99 w h g st r
  unfold f_X8_missOf
  rw [(m_copyOf hw hh hw1 hh1 hm hp).1 hc, bd1_s, rd_ok hq (by omega), rd_ok hp (by omega), rd_ok (by omega) (by omega), hG _ hq, hG _ hp, (sz_nat (mi_z rfl rfl ho h1 h2 h3) (by omega)).1, bd1_s]
  rfl
theorem m_darkAt {w h s : Nat} {g st : Nat → Nat} {csq cd cl : Nat → Int32} (ho : OKs st) (hw : w ≤ 16) (hh : h ≤ 16) (hM : MS w g st (qN w h st) csq cd cl) (hs : s < qN w h st) : f_X8_darkAt FU (nI (qN w h st)) csq cd (nI (qP w st s)) = some (nI (qMn g st (qP w st s))) := by
  have hN := qN_225 (w := w) (h := h) ho hw hh
  have q1 := qP_256 ho hw hh hs
  have go : ∀ (d t fuel : Nat), t + d = s → d < fuel → f_X8_darkAt_L2 FU (nI (qP w st s)) (nI (qN w h st)) csq cd (fun (_ : Int32) => some (-9)) fuel (nI t) = some (nI (qMn g st (qP w st s))) := by
    intro d
    induction d with
    | zero =>
      intro t fuel e1 e2
      obtain ⟨f, rfl⟩ : ∃ f, fuel = f + 1 := ⟨fuel - 1, by omega⟩
      have et : t = s := by omega
      subst et
      rw [f_X8_darkAt_L2, if_neg (by rw [n_le (by omega) (by omega)]; omega), rd_ok (by omega) (by omega), (hM t hs).1, if_pos rfl, rd_ok (by omega) (by omega), (hM t hs).2.1]
    | succ d ih =>
      intro t fuel e1 e2
      obtain ⟨f, rfl⟩ : ∃ f, fuel = f + 1 := ⟨fuel - 1, by omega⟩
      have ht : t < qN w h st := by omega
      have q2 := qP_256 ho hw hh ht
      rw [f_X8_darkAt_L2, if_neg (by rw [n_le (by omega) (by omega)]; omega), rd_ok (by omega) (by omega), (hM t ht).1, if_neg (by rw [n_inj (by omega) (by omega)]; intro z; have := qP_inj (h := h) ho hw ht hs z; omega), nI_1]
      exact ih (t + 1) f (by omega) (by omega)
  unfold f_X8_darkAt
  exact go s 0 FU (by omega) (by unfold FU; omega)
/-! the reference: the first places of a finding -/
def Oth (c c0 : Nat → Int32) (j : Nat) : Prop := ∀ j' x, j' ≠ j → x < 256 → c (256 * j' + x) = c0 (256 * j' + x)
theorem oth_rfl {c : Nat → Int32} {j : Nat} : Oth c c j := fun _ _ _ _ => rfl
theorem oth_tr {a b c : Nat → Int32} {j : Nat} (h1 : Oth a b j) (h2 : Oth b c j) : Oth a c j := fun j' x h3 h4 => (h1 j' x h3 h4).trans (h2 j' x h3 h4)
theorem oth_put {c : Nat → Int32} {j p : Nat} {v : Int32} (hp : p < 256) : Oth (upd c (256 * j + p) v) c j := by
  intro j' x h1 h2
  have ne : 256 * j' + x ≠ 256 * j + p := by omega
  simp only [upd, ne, if_false]
theorem m_bf56 {j : Nat} {kk : _} {P : _} (hj : j < 24) : ∀ (d q fuel : Nat) (c : Nat → Int32), q + d = 256 → d < fuel → (∀ x, x < q → c (256 * j + x) = 0) → (∀ (z : Int32) (c' : Nat → Int32), MIn c' j (fun _ => False) → Oth c' c j → Rt (kk z c') P) → Rt (f_X8_beginsFinding_L56 FU (nI j) kk fuel (nI q) c) P := by
  intro d
  induction d with
  | zero =>
    intro q fuel c e1 e2 hc hk
    obtain ⟨f, rfl⟩ : ∃ f, fuel = f + 1 := ⟨fuel - 1, by omega⟩
    rw [f_X8_beginsFinding_L56]
    exact rt_t (by rw [show (256 : Int32) = nI 256 from rfl]; exact (by rw [n_le (by omega) (by omega)]; omega)) (hk _ _ (fun x hx => ⟨fun z => absurd z (fun y => y), fun _ => hc x (by omega)⟩) oth_rfl)
  | succ d ih =>
    intro q fuel c e1 e2 hc hk
    obtain ⟨f, rfl⟩ : ∃ f, fuel = f + 1 := ⟨fuel - 1, by omega⟩
    rw [f_X8_beginsFinding_L56]
    refine rt_f (by rw [show (256 : Int32) = nI 256 from rfl]; exact (by rw [n_le (by omega) (by omega)]; omega)) ?_
    rw [show (256 : Int32) = nI 256 from rfl, pk_mul, nI_add, wrz_ok (by omega) (by omega), nI_1, nar0]
    refine ih (q + 1) f _ (by omega) (by omega) (fun x hx => ?_) ?_
    · by_cases e : x = q
      · subst e; simp [upd]
      · have ne : 256 * j + x ≠ 256 * j + q := by omega
        simp only [upd, ne, if_false]
        exact hc x (by omega)
    · intro z c' z1 z2
      exact hk z c' z1 (oth_tr z2 (oth_put (by omega)))
/-- the places of a square of which those ahead of n are told -/
def sqA (st : Nat → Nat) (A : Nat → Prop) (q n x : Nat) : Prop := A x ∨ ∃ i, i < n ∧ x = q + 16 * (i / st 0) + i % st 0
theorem m_bf98 {j v q r : Nat} {st : Nat → Nat} {A : Nat → Prop} {cs cra crof : Nat → Int32} {kk : _} {P : _} (hS : RepS cs st) (ho : OKs st) (hj : j < 24) (hv : v < 8) (hq : q < 256) (hr : crof j = nI r) (he : cra (256 * v + q) = nI r) (hp : OKp st q) :
    ∀ (d i fuel : Nat) (c : Nat → Int32), i + d = qS st → d < fuel → MIn c j (sqA st A q i) → (∀ (z : Int32) (c' : Nat → Int32), MIn c' j (sqA st A q (qS st)) → Oth c' c j → Rt (kk z c') P) → Rt (f_X8_beginsFinding_L98 FU (nI j) (nI v) (nI q) cs cra crof kk fuel (nI i) c) P := by
  have hs := ho.side
  have hq16 := ho.sq
  intro d
  induction d with
  | zero =>
    intro i fuel c e1 e2 hc hk
    obtain ⟨f, rfl⟩ : ∃ f, fuel = f + 1 := ⟨fuel - 1, by omega⟩
    have ei : i = qS st := by omega
    subst ei
    rw [f_X8_beginsFinding_L98, m_numbers hS, bd1_s]
    exact rt_t (by rw [n_le (by omega) (by omega)]; omega) (hk _ _ hc oth_rfl)
  | succ d ih =>
    intro i fuel c e1 e2 hc hk
    obtain ⟨f, rfl⟩ : ∃ f, fuel = f + 1 := ⟨fuel - 1, by omega⟩
    have hx := qG_ix ho hp (by omega : i < qS st)
    rw [f_X8_beginsFinding_L98, m_numbers hS, bd1_s]
    refine rt_f (by rw [n_le (by omega) (by omega)]; omega) ?_
    rw [show (256 : Int32) = nI 256 from rfl, pk_mul, nI_add, rd_ok (by omega) (by omega), rd_ok (by omega) (by omega), he, hr]
    refine rt_t rfl ?_
    rw [show (0 : Int32) = nI 0 from rfl, rd_ok (by omega) (by omega), hS 0 (by omega), dv_ok (by omega) (by omega) (by omega), rd_ok (by omega) (by omega), hS 0 (by omega), rm_ok (by omega) (by omega) (by omega), pk_mul, nI_add, show (16 : Int32) = nI 16 from rfl, pk_mul, nI_add, nI_add, show 256 * j + q + 16 * (i / st 0) + i % st 0 = 256 * j + (q + 16 * (i / st 0) + i % st 0) by omega, wrz_ok (by omega) (by omega), nar1, nI_1]
    refine ih (i + 1) f _ (by omega) (by omega) (min_cong (min_put hc hx) (fun x _ => ?_)) ?_
    · unfold sqA
      constructor
      · rintro ((z | ⟨i', z1, z2⟩) | z)
        · exact Or.inl z
        · exact Or.inr ⟨i', by omega, z2⟩
        · exact Or.inr ⟨i, by omega, z⟩
      · rintro (z | ⟨i', z1, z2⟩)
        · exact Or.inl (Or.inl z)
        · by_cases e : i' = i
          · subst e; exact Or.inr z2
          · exact Or.inl (Or.inr ⟨i', by omega, z2⟩)
    · intro z c' z1 z2
      exact hk z c' z1 (oth_tr z2 (oth_put hx))
def wdU (st : Nat → Nat) (R : Nat → Prop) (n x : Nat) : Prop := ∃ p i, p < n ∧ R p ∧ i < qS st ∧ x = p + 16 * (i / st 0) + i % st 0
theorem wdU_end {st : Nat → Nat} {R : Nat → Prop} (ho : OKs st) {x : Nat} : wdU st R 256 x ↔ wdn (st 0) R x := by
  have hs := ho.side
  constructor
  · rintro ⟨p, i, h1, h2, h3, h4⟩
    exact ⟨p, i % st 0, i / st 0, h1, h2, Nat.mod_lt _ (by omega), Nat.div_lt_of_lt_mul h3, h4⟩
  · rintro ⟨p, a, b, h1, h2, h3, h4, h5⟩
    refine ⟨p, st 0 * b + a, h1, h2, sd_lt h4 h3 rfl, ?_⟩
    rw [Nat.mul_add_div (by omega), Nat.mul_add_mod, Nat.div_eq_of_lt h3, Nat.mod_eq_of_lt h3]
    omega
theorem m_bf87 {j v r : Nat} {st : Nat → Nat} {R : Nat → Prop} {cs cra crof : Nat → Int32} {kk : _} {P : _} (hS : RepS cs st) (ho : OKs st) (hj : j < 24) (hv : v < 8) (hr : crof j = nI r) (hR : ∀ q, q < 256 → (cra (256 * v + q) = nI r ↔ R q)) (hp : ∀ q, q < 256 → R q → OKp st q) :
    ∀ (d q fuel : Nat) (c : Nat → Int32), q + d = 256 → d < fuel → MIn c j (wdU st R q) → (∀ (z : Int32) (c' : Nat → Int32), MIn c' j (wdU st R 256) → Oth c' c j → Rt (kk z c') P) → Rt (f_X8_beginsFinding_L87 FU (nI j) (nI v) cs cra crof kk fuel (nI q) c) P := by
  have hq16 := ho.sq
  intro d
  induction d with
  | zero =>
    intro q fuel c e1 e2 hc hk
    obtain ⟨f, rfl⟩ : ∃ f, fuel = f + 1 := ⟨fuel - 1, by omega⟩
    have eq : q = 256 := by omega
    subst eq
    rw [f_X8_beginsFinding_L87]
    exact rt_t (by rw [show (256 : Int32) = nI 256 from rfl]; exact (by rw [n_le (by omega) (by omega)]; omega)) (hk _ _ hc oth_rfl)
  | succ d ih =>
    intro q fuel c e1 e2 hc hk
    obtain ⟨f, rfl⟩ : ∃ f, fuel = f + 1 := ⟨fuel - 1, by omega⟩
    rw [f_X8_beginsFinding_L87]
    refine rt_f (by rw [show (256 : Int32) = nI 256 from rfl]; exact (by rw [n_le (by omega) (by omega)]; omega)) ?_
    by_cases e : R q
    · refine m_bf98 (A := wdU st R q) hS ho hj hv (by omega) hr ((hR q (by omega)).mpr e) (hp q (by omega) e) (qS st) 0 FU c (by omega) (by unfold FU; omega) (min_cong hc (fun x _ => ⟨fun z => Or.inl z, fun z => ?_⟩)) ?_
      · rcases z with z | ⟨i, z, _⟩
        · exact z
        · omega
      · intro z c' z1 z2
        rw [nI_1]
        refine ih (q + 1) f c' (by omega) (by omega) (min_cong z1 (fun x _ => ?_)) (fun z c'' y1 y2 => hk z c'' y1 (oth_tr y2 z2))
        constructor
        · rintro (⟨p, i, h1, h2, h3, h4⟩ | ⟨i, h1, h2⟩)
          · exact ⟨p, i, by omega, h2, h3, h4⟩
          · exact ⟨q, i, by omega, e, h1, h2⟩
        · rintro ⟨p, i, h1, h2, h3, h4⟩
          by_cases ep : p = q
          · subst ep; exact Or.inr ⟨i, h3, h4⟩
          · exact Or.inl ⟨p, i, by omega, h2, h3, h4⟩
    · obtain ⟨F2, eF⟩ : ∃ F2, FU = F2 + 1 := ⟨FU - 1, by unfold FU; omega⟩
      have step : f_X8_beginsFinding_L98 FU (nI j) (nI v) (nI q) cs cra crof (fun (x5_21 : Int32) (c_isIn_22 : (Nat → Int32)) => f_X8_beginsFinding_L87 FU (nI j) (nI v) cs cra crof kk f (nI q + 1) c_isIn_22) FU 0 c = f_X8_beginsFinding_L87 FU (nI j) (nI v) cs cra crof kk f (nI q + 1) c := by
        generalize hG : (fun (x5_21 : Int32) (c_isIn_22 : (Nat → Int32)) => f_X8_beginsFinding_L87 FU (nI j) (nI v) cs cra crof kk f (nI q + 1) c_isIn_22) = G
        rw [show f_X8_beginsFinding_L87 FU (nI j) (nI v) cs cra crof kk f (nI q + 1) c = G 0 c by rw [← hG]]
        generalize FU = F at eF
        subst eF
        rw [f_X8_beginsFinding_L98, m_numbers hS, bd1_s, show (0 : Int32) = nI 0 from rfl, if_neg (by rw [n_le (by omega) (by omega)]; omega), show (256 : Int32) = nI 256 from rfl, pk_mul, nI_add, rd_ok (by omega) (by omega), rd_ok (by omega) (by omega), hr, if_neg (fun z => e ((hR q (by omega)).mp z))]
      refine rt_eq step ?_
      rw [nI_1]
      refine ih (q + 1) f c (by omega) (by omega) (min_cong hc (fun x _ => ?_)) hk
      constructor
      · rintro ⟨p, i, h1, h2, h3, h4⟩
        exact ⟨p, i, by omega, h2, h3, h4⟩
      · rintro ⟨p, i, h1, h2, h3, h4⟩
        refine ⟨p, i, ?_, h2, h3, h4⟩
        by_cases ep : p = q
        · subst ep; exact absurd h2 e
        · omega
theorem OKp_in {w h : Nat} {st : Nat → Nat} {p : Nat} (hw : w ≤ 16) (hh : h ≤ 16) (hp : p % 16 + st 0 ≤ w ∧ p / 16 + st 0 ≤ h) : OKp st p := by
  unfold OKp; omega
theorem m_begins {w h j r : Nat} {g st : Nat → Nat} {cs csq cd cl cx cy cra crs crp crf crof cof cbg cin : Nat → Int32} {nr : Int32} (hS : RepS cs st) (ho : OKs st) (hw : w ≤ 16) (hh : h ≤ 16) (hw1 : 1 ≤ w) (hh1 : 1 ≤ h) (hM : MS w g st (qN w h st) csq cd cl) (hR : MRs w h g st cra nr crs crp crf) (hm : MF w h g st cx cy crs crof j r) :
    Rt (f_X8_beginsFinding FU (nI w) (nI h) cs (nI (qN w h st)) csq cd cx cy cra crs crf crof cof cbg cin (nI j)) (fun q => (q.1 j).toInt = zOf w h g st r ∧ (∀ o, o ≠ j → q.1 o = cof o) ∧ q.2.1 j = nI (cnt (zWd w h g st r)) ∧ (∀ o, o ≠ j → q.2.1 o = cbg o) ∧ MIn q.2.2 j (zWd w h g st r) ∧ Oth q.2.2 cin j) := by
  have hman := ho.man
  have hK := hm.2.2.1.K8
  have me := zE2_mem hm.2.1
  have h1024 := zRL_1024 hm.2.2.1
  have hj := hm.1
  have hr := hm.2.1
  have ecf : crf r = nI (zp w h g st r) := hR.2.2.1 r hr
  have hra : ∀ q, q < 256 → (cra (256 * (zE2 w h g st r).1 + q) = nI r ↔ zRA w h g st r q) := hR.2.2.2.2 r hr
  obtain ⟨s, t, hs1, ht1, es, et, hc⟩ := zp_pair ho hw hh hr
  unfold f_X8_beginsFinding
  rw [m_shiftOf hm, bd1_s, rd_ok (by omega) (by omega), hm.2.2.2.2.2, rd_ok (by omega) (by omega), ecf, show (2 : Int32) = nI 2 from rfl, rd_ok (by omega) (by omega), hS 2 (by omega)]
  have tail : ∀ v : Int32, v.toInt = zOf w h g st r → Rt (wr cof 24 (nI j) v (fun c_offset_8 => f_X8_beginsFinding_L56 FU (nI j) (fun (x4_9 : Int32) (c_isIn_10 : (Nat → Int32)) => f_X8_beginsFinding_L87 FU (nI j) (nI (zE2 w h g st r).1) cs cra crof (fun (x4_14 : Int32) (c_isIn_15 : (Nat → Int32)) => bd1 (f_X8_manyIn FU c_isIn_15 (nI j)) (fun r_19 => wr cbg 24 (nI j) r_19 (fun c_begun_20 => some (c_offset_8, c_begun_20, c_isIn_15)))) FU 0 c_isIn_10) FU 0 cin)) (fun q => (q.1 j).toInt = zOf w h g st r ∧ (∀ o, o ≠ j → q.1 o = cof o) ∧ q.2.1 j = nI (cnt (zWd w h g st r)) ∧ (∀ o, o ≠ j → q.2.1 o = cbg o) ∧ MIn q.2.2 j (zWd w h g st r) ∧ Oth q.2.2 cin j) := by
    intro v hv
    rw [wr_ok (by omega) (by omega)]
    refine m_bf56 hj 256 0 FU cin (by omega) (by unfold FU; omega) (fun x hx => by omega) ?_
    intro z c' z1 z2
    refine m_bf87 (R := zRA w h g st r) hS ho hj (by omega) hm.2.2.2.2.2 hra (fun q _ hq => OKp_in hw hh (zRA_in ho hw hr hq)) 256 0 FU c' (by omega) (by unfold FU; omega) (min_cong z1 (fun x _ => ⟨fun y => absurd y (fun z => z), fun y => ?_⟩)) ?_
    · obtain ⟨p, i, y1, _⟩ := y
      omega
    · intro z3 c'' y1 y2
      have y3 : MIn c'' j (zWd w h g st r) := min_cong y1 (fun x _ => wdU_end ho)
      rw [m_manyIn hj y3, bd1_s, wr_ok (by omega) (by omega)]
      refine rt_some ⟨?_, fun o h1 => ?_, ?_, fun o h1 => ?_, y3, oth_tr y2 z2⟩
      · simp only [upd, if_true]; exact hv
      · simp only [upd, h1, if_false]
      · simp only [upd, if_true]
      · simp only [upd, h1, if_false]
  refine rt_jn ?_
  dsimp only
  refine rt_if (fun c => ?_) (fun c => ?_)
  · rw [show (0 : Int32) = nI 0 from rfl, n_inj (by omega) (by omega)] at c
    refine tail 0 ?_
    unfold zOf
    rw [if_neg (by omega)]
    decide
  · rw [show (0 : Int32) = nI 0 from rfl, n_inj (by omega) (by omega)] at c
    rw [(m_copyOf (p := zp w h g st r) hw hh hw1 hh1 hm me.2.1).1 hc, bd1_s]
    have e2 : f_X8_darkAt FU (nI (qN w h st)) csq cd (nI (cpP (zv w h g st r) (zp w h g st r))) = some (nI (qMn g st (cpP (zv w h g st r) (zp w h g st r)))) := by
      rw [← et]; exact m_darkAt ho hw hh hM ht1
    have e3 : f_X8_darkAt FU (nI (qN w h st)) csq cd (nI (zp w h g st r)) = some (nI (qMn g st (zp w h g st r))) := by
      rw [← es]; exact m_darkAt ho hw hh hM hs1
    rw [e2, bd1_s, e3, bd1_s]
    refine tail _ ?_
    have b1 : qMn g st (cpP (zv w h g st r) (zp w h g st r)) ≤ 99 := qMn_99
    have b2 : qMn g st (zp w h g st r) ≤ 99 := qMn_99
    rw [pk_sub_toInt (by omega) (by omega)]
    unfold zOf
    rw [if_pos (by omega)]
