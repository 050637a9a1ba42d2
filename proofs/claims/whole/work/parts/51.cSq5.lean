/-! the class reads its squares -/
theorem ac_ok : ∀ w, w < 17 → ∀ s, s < 5 → (if 0 < ((nI w - nI s) + 1) then ((nI w - nI s) + 1) else 0) = nI (w + 1 - s) := by decide +kernel
def CR (w : Nat) (g st : Nat → Nat) (n : Nat) (co cl cx cr : Nat → Int32) (ch ct : Nat → Int64) : Prop := ∀ s, s < n → co s = nI (qP w st s) ∧ cl (qP w st s) = nI (qMn g st (qP w st s)) ∧ cx (qP w st s) = nI (qMx g st (qP w st s)) ∧ cr (qP w st s) = nI (qF g st (qP w st s)) ∧ HT g st ch ct (qP w st s)
def zK (w : Nat) (g st : Nat → Nat) (s : Nat) : Nat := qK g st (qP w st s)
def zF (w : Nat) (g st : Nat → Nat) (s : Nat) : Nat := qF g st (qP w st s)
theorem zF_1 (w : Nat) (g st : Nat → Nat) (s : Nat) : zF w g st s ≤ 1 := by unfold zF qF; split <;> omega
theorem c_rd68 {w h y : Nat} {g st : Nat → Nat} {cg cs : Nat → Int32} {k : _} {Q : _} (hG : RepG cg g) (hS : RepS cs st) (hg : ∀ q, q < 256 → g q ≤ 99) (ho : OKs st) (hw : w ≤ 16) (hh : h ≤ 16) (hy : y < qA h st) :
    ∀ (d x fuel : Nat) (co cl cx cr : Nat → Int32) (ch ct : Nat → Int64), x + d = qA w st → d < fuel → CR w g st (qA w st * y + x) co cl cx cr ch ct →
      (∀ (z : Int32) (co cl cx cr : Nat → Int32) (ch ct : Nat → Int64), CR w g st (qA w st * (y + 1)) co cl cx cr ch ct → Rt (k z co cl cx cr ch ct (nI (qA w st * (y + 1))) (nI (fb_sm (zF w g st) (qA w st * (y + 1))))) Q) →
      Rt (f_X5_read_L68 FU (nI y) cg (nI w) (nI h) cs (nI (st 0)) (nI (qA w st)) k fuel (nI x) co cl cx cr ch ct (nI (qA w st * y + x)) (nI (fb_sm (zF w g st) (qA w st * y + x)))) Q := by
  have hA := qA_15 ho hw
  have hB := qA_15 ho hh
  have hsd := ho.side
  intro d
  induction d with
  | zero =>
    intro x fuel co cl cx cr ch ct e1 e2 hc hk
    obtain ⟨f, rfl⟩ : ∃ f, fuel = f + 1 := ⟨fuel - 1, by omega⟩
    have ex : x = qA w st := by omega
    have e3 : qA w st * y + x = qA w st * (y + 1) := by rw [Nat.mul_add, ex, Nat.mul_one]
    rw [f_X5_read_L68]
    rw [e3] at hc ⊢
    exact rt_t (by rw [n_le (by omega) (by omega)]; omega) (hk _ _ _ _ _ _ _ hc)
  | succ d ih =>
    intro x fuel co cl cx cr ch ct e1 e2 hc hk
    obtain ⟨f, rfl⟩ : ∃ f, fuel = f + 1 := ⟨fuel - 1, by omega⟩
    have hx : x < qA w st := by omega
    have hn : qA w st * y + x < 225 := by
      have h1 : qA w st * y ≤ 15 * 14 := Nat.mul_le_mul hA (by omega)
      omega
    have hxs : x + st 0 ≤ w := by unfold qA at hx; omega
    have hys : y + st 0 ≤ h := by unfold qA at hy; omega
    rw [f_X5_read_L68]
    refine rt_f (by rw [n_le (by omega) (by omega)]; omega) ?_
    rw [show (3 : Int32) = nI 3 from rfl, rd_ok (by omega) (by omega), hS 3 (by omega), c_measure hG hg ho hw hh hxs hys, show ∀ a b c d, (bd4 (some (a, b, c, d)) : ((Nat → Int32) → (Nat → Int32) → (Nat → Int32) → Int32 → Option _) → _) = fun k => k a b c d from fun _ _ _ _ => rfl]
    dsimp only
    rw [c_readNumbers hG hS hg ho hw hh hxs hys (by simp [upd]), show ∀ a b, (bd2 (some (a, b)) : ((Nat → Int64) → (Nat → Int64) → Option _) → _) = fun k => k a b from fun _ _ => rfl]
    dsimp only
    rw [wr_ok (by omega) (by omega), p16, nI_1, nI_1, nI_add]
    have es : fb_sm (zF w g st) (qA w st * y + x) + qF g st (16 * y + x) = fb_sm (zF w g st) (qA w st * y + (x + 1)) := by
      rw [show qA w st * y + (x + 1) = (qA w st * y + x) + 1 by omega, fb_sm_succ]
      unfold zF
      rw [qP_xy hx]
    rw [es, show qA w st * y + x + 1 = qA w st * y + (x + 1) by omega]
    refine ih (x + 1) f _ _ _ _ _ _ (by omega) (by omega) ?_ hk
    intro t ht
    by_cases e : t = qA w st * y + x
    · subst e
      rw [qP_xy hx]
      exact ⟨by simp [upd], by simp [upd], by simp [upd], by simp [upd], by simp [vp_updL], by simp [vp_updL]⟩
    · obtain ⟨a1, a2, a3, a4, a5, a6⟩ := hc t (by omega)
      have ht2 : t < qN w h st := by
        have h1 : qA w st * (y + 1) ≤ qA w st * qA h st := Nat.mul_le_mul_left _ hy
        rw [Nat.mul_add] at h1
        unfold qN
        omega
      have ht3 : qA w st * y + x < qN w h st := by
        have h1 : qA w st * (y + 1) ≤ qA w st * qA h st := Nat.mul_le_mul_left _ hy
        rw [Nat.mul_add] at h1
        unfold qN
        omega
      have ne : qP w st t ≠ 16 * y + x := by
        rw [← qP_xy hx]
        intro q
        exact e (qP_inj ho hw ht2 ht3 q)
      refine ⟨by simp [upd, e, a1], by simp [upd, ne, a2], by simp [upd, ne, a3], by simp [upd, ne, a4], by simp [vp_updL, ne, a5], by simp [vp_updL, ne, a6]⟩
theorem c_rd57 {w h : Nat} {g st : Nat → Nat} {cg cs : Nat → Int32} {k : _} {Q : _} (hG : RepG cg g) (hS : RepS cs st) (hg : ∀ q, q < 256 → g q ≤ 99) (ho : OKs st) (hw : w ≤ 16) (hh : h ≤ 16) :
    ∀ (d y fuel : Nat) (co cl cx cr : Nat → Int32) (ch ct : Nat → Int64), y + d = qA h st → d < fuel → CR w g st (qA w st * y) co cl cx cr ch ct →
      (∀ (z : Int32) (co cl cx cr : Nat → Int32) (ch ct : Nat → Int64), CR w g st (qN w h st) co cl cx cr ch ct → Rt (k z co cl cx cr ch ct (nI (qN w h st)) (nI (fb_sm (zF w g st) (qN w h st)))) Q) →
      Rt (f_X5_read_L57 FU cg (nI w) (nI h) cs (nI (st 0)) (nI (qA w st)) (nI (qA h st)) k fuel (nI y) co cl cx cr ch ct (nI (qA w st * y)) (nI (fb_sm (zF w g st) (qA w st * y)))) Q := by
  have hA := qA_15 ho hw
  have hB := qA_15 ho hh
  intro d
  induction d with
  | zero =>
    intro y fuel co cl cx cr ch ct e1 e2 hc hk
    obtain ⟨f, rfl⟩ : ∃ f, fuel = f + 1 := ⟨fuel - 1, by omega⟩
    have ey : y = qA h st := by omega
    have e3 : qA w st * y = qN w h st := by rw [ey]; rfl
    rw [f_X5_read_L57]
    rw [e3] at hc ⊢
    exact rt_t (by rw [n_le (by omega) (by omega)]; omega) (hk _ _ _ _ _ _ _ hc)
  | succ d ih =>
    intro y fuel co cl cx cr ch ct e1 e2 hc hk
    obtain ⟨f, rfl⟩ : ∃ f, fuel = f + 1 := ⟨fuel - 1, by omega⟩
    rw [f_X5_read_L57]
    refine rt_f (by rw [n_le (by omega) (by omega)]; omega) ?_
    refine c_rd68 (h := h) hG hS hg ho hw hh (by omega) (qA w st) 0 FU co cl cx cr ch ct (by omega) (by unfold FU; omega) hc ?_
    intro z co cl cx cr ch ct hc'
    rw [nI_1]
    exact ih (y + 1) f co cl cx cr ch ct (by omega) (by omega) hc' hk
/-- the class's squares are read -/
def CSq (w h : Nat) (g st : Nat → Nat) (co cl cx cr : Nat → Int32) (ch ct : Nat → Int64) (ck cf cto : Nat → Int32) (csd ca cd cn cfl ccr cki : Int32) : Prop := ∃ o : Nat → Nat,
  (∀ i, i < qN w h st → o i < qN w h st) ∧ (∀ i j, i < j → j < qN w h st → bef (zK w g st) (o i) (o j)) ∧ (∀ i, i < qN w h st → co i = nI (qP w st (o i))) ∧
  (∀ s, s < qN w h st → cl (qP w st s) = nI (qMn g st (qP w st s)) ∧ cx (qP w st s) = nI (qMx g st (qP w st s)) ∧ cr (qP w st s) = nI (roP (qN w h st) (st 5) (zK w g st) (zF w g st) s) ∧ HT g st ch ct (qP w st s)) ∧
  (∀ i, i < qN w h st → ∃ a b, KD (qN w h st) (fun i => zK w g st (o i)) i a b ∧ ck (qP w st (o i)) = nI i ∧ cf (qP w st (o i)) = nI a ∧ cto (qP w st (o i)) = nI b) ∧
  csd = nI (st 0) ∧ ca = nI (qA w st) ∧ cd = nI (qA h st) ∧ cn = nI (qN w h st) ∧ cfl = nI (fb_sm (zF w g st) (qN w h st)) ∧ ccr = nI (fb_sm (c2P (qN w h st) (st 5) (zK w g st) (zF w g st)) (qN w h st)) ∧ cki = nI (fb_sm (fsP (zK w g st)) (qN w h st))
theorem bef_inj {κ o : Nat → Nat} {N : Nat} (h : ∀ i j, i < j → j < N → bef κ (o i) (o j)) : ∀ i j, i < j → j < N → o i ≠ o j := by
  intro i j h1 h2 e
  have := h i j h1 h2
  rw [e] at this
  exact bef_irr this
theorem c_read {w h : Nat} {g st : Nat → Nat} {cg cs co cm cl cx cr ck cf cto : Nat → Int32} {ch ct : Nat → Int64} {csd ca cd cn cfl ccr cki : Int32} (hG : RepG cg g) (hS : RepS cs st) (hg : ∀ q, q < 256 → g q ≤ 99) (ho : OKs st) (hw : w ≤ 16) (hh : h ≤ 16) :
    Rt (f_X5_read FU cg (nI w) (nI h) cs co cm cl cx cr ch ct ck cf cto csd ca cd cn cfl ccr cki) (fun q => CSq w h g st q.1 q.2.2.1 q.2.2.2.1 q.2.2.2.2.1 q.2.2.2.2.2.1 q.2.2.2.2.2.2.1 q.2.2.2.2.2.2.2.1 q.2.2.2.2.2.2.2.2.1 q.2.2.2.2.2.2.2.2.2.1 q.2.2.2.2.2.2.2.2.2.2.1 q.2.2.2.2.2.2.2.2.2.2.2.1 q.2.2.2.2.2.2.2.2.2.2.2.2.1 q.2.2.2.2.2.2.2.2.2.2.2.2.2.1 q.2.2.2.2.2.2.2.2.2.2.2.2.2.2.1 q.2.2.2.2.2.2.2.2.2.2.2.2.2.2.2.1 q.2.2.2.2.2.2.2.2.2.2.2.2.2.2.2.2) := by
  have hsd := ho.side
  have hN := qN_225 (w := w) (h := h) ho hw hh
  have hA := qA_15 ho hw
  have hB := qA_15 ho hh
  have hcw := ho.crowd
  unfold f_X5_read
  rw [show (0 : Int32) = nI 0 from rfl, rd_ok (by omega) (by omega), hS 0 (by omega)]
  rw [show (if nI 0 < ((nI w - nI (st 0)) + 1) then ((nI w - nI (st 0)) + 1) else nI 0) = nI (qA w st) from ac_ok w (by omega) (st 0) (by omega), show (if nI 0 < ((nI h - nI (st 0)) + 1) then ((nI h - nI (st 0)) + 1) else nI 0) = nI (qA h st) from ac_ok h (by omega) (st 0) (by omega)]
  refine c_rd57 (w := w) (h := h) hG hS hg ho hw hh (qA h st) 0 FU co cl cx cr ch ct (by omega) (by unfold FU; omega) (fun s hs => by simp at hs) ?_
  intro z co cl cx cr ch ct hc
  generalize eN : qN w h st = N at *
  have okp : ∀ s, s < N → OKp st (qP w st s) ∧ qP w st s < 256 := fun s hs => ⟨OKp_s ho hw hh (eN ▸ hs), qP_256 ho hw hh (eN ▸ hs)⟩
  refine rt_bd2 (c_sort (pl := qP w st) (κ := zK w g st) hN ?_ (fun i hi => (hc i hi).1)) ?_
  · intro s t hs ht
    exact c_isBefore ho hg (okp s hs).1 (okp t ht).1 (okp s hs).2 (okp t ht).2 (hc s hs).2.2.2.2 (hc t ht).2.2.2.2
  · intro co' cm' hz
    obtain ⟨o, o1, o2, o3⟩ := hz
    have o4 := bef_inj o2
    rw [show (5 : Int32) = nI 5 from rfl, rd_ok (by omega) (by omega), hS 5 (by omega)]
    refine rt_bd6 (c_splitKinds (P := fun i => qP w st (o i)) (κ := fun i => zK w g st (o i)) (F := fun i => zF w g st (o i)) hN (by omega) (fun i hi => (okp _ (o1 i hi)).2) ?_ o3 (fun i _ => zF_1 _ _ _ _) ?_ ?_ (fun i hi => (hc _ (o1 i hi)).2.2.2.1)) ?_
    · intro i j hi hj e
      have e2 := qP_inj ho hw (h := h) (by rw [eN]; exact o1 i hi) (by rw [eN]; exact o1 j hj) e
      rcases Nat.lt_trichotomy i j with q | q | q
      · exact absurd e2 (o4 i j q hj)
      · exact q
      · exact absurd e2.symm (o4 j i q hi)
    · intro i j hi hj
      exact c_areAlike ho hg (okp _ (o1 i hi)).1 (okp _ (o1 j hj)).1 (okp _ (o1 i hi)).2 (okp _ (o1 j hj)).2 (hc _ (o1 i hi)).2.2.2.2 (hc _ (o1 j hj)).2.2.2.2
    · intro i j hij hj
      have := o2 i j hij hj
      unfold bef at this
      omega
    · intro cr' ck' cf' ct' cc' cki' hz
      obtain ⟨s1, s2, s3, s4, s5⟩ := hz
      dsimp only at s1 s2 s3 s4 s5
      have nlo : ∀ i, nlP N (fun i => zK w g st (o i)) (fun i => zF w g st (o i)) i = nlP N (zK w g st) (zF w g st) (o i) := by
        intro i
        unfold nlP
        exact sm_perm (fun t => if zK w g st t = zK w g st (o i) then 1 - zF w g st t else 0) o1 o4
      have roo : ∀ i, roP N (st 5) (fun i => zK w g st (o i)) (fun i => zF w g st (o i)) i = roP N (st 5) (zK w g st) (zF w g st) (o i) := by
        intro i
        unfold roP
        rw [nlo]
      refine rt_some ?_
      unfold CSq
      rw [eN]
      refine ⟨o, o1, o2, o3, ?_, ?_, rfl, rfl, rfl, rfl, rfl, ?_, ?_⟩
      · intro s hs
        obtain ⟨a1, a2, a3, a4, a5⟩ := hc s hs
        refine ⟨a2, a3, ?_, a5⟩
        obtain ⟨i, hi, e⟩ := fb_onto o1 o4 hs
        obtain ⟨a, b, b1, b2, b3⟩ := s1 i hi
        rw [← e, ← roo]
        exact b2
      · intro i hi
        obtain ⟨a, b, b1, b2, b3, b4, b5⟩ := s1 i hi
        exact ⟨a, b, b1, b3, b4, b5⟩
      · refine s4.trans ?_
        congr 1
        rw [← sm_perm (c2P N (st 5) (zK w g st) (zF w g st)) o1 o4]
        refine fb_sm_cong (fun i hi => ?_)
        unfold c2P
        rw [roo]
      · refine s5.trans ?_
        congr 1
        rw [← sm_perm (fsP (zK w g st)) o1 o4]
        refine fb_sm_cong (fun i hi => ?_)
        unfold fsP
        have ei : (∀ j, j < i → zK w g st (o j) ≠ zK w g st (o i)) ↔ (∀ j, j < o i → zK w g st j ≠ zK w g st (o i)) := by
          constructor
          · intro h1 t ht e
            obtain ⟨j, hj, e2⟩ := fb_onto o1 o4 (Nat.lt_trans ht (o1 i hi))
            subst e2
            rcases Nat.lt_trichotomy i j with q | q | q
            · have := o2 i j q hj
              unfold bef at this
              omega
            · subst q; omega
            · exact h1 j q e
          · intro h1 j hj e
            have := o2 j i hj hi
            unfold bef at this
            exact h1 (o j) (by omega) e
        by_cases c : ∀ j, j < o i → zK w g st j ≠ zK w g st (o i)
        · rw [if_pos c, if_pos (ei.mpr c)]
        · rw [if_neg c, if_neg (fun q => c (ei.mp q))]
