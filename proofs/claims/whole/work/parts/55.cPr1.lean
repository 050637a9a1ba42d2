/-! the class finds the pairs -/
def RVc (w : Nat) (st : Nat → Nat) (L : List (Nat × Nat)) (c : Nat → Int32) : Prop := ∀ a d, a < 31 → d < 16 → c (31 * d + a) = nI (vtL w st L a d)
theorem RVc_snoc {w : Nat} {st : Nat → Nat} {L : List (Nat × Nat)} {p : Nat × Nat} {c : Nat → Int32} (h : RVc w st L c) (hx : zX w st p.1 p.2 < 31) (hy : zY w st p.1 p.2 < 16) : RVc w st (L ++ [p]) (upd c (31 * zY w st p.1 p.2 + zX w st p.1 p.2) (nI (vtL w st L (zX w st p.1 p.2) (zY w st p.1 p.2) + 1))) := by
  intro a d ha hd
  rw [vt_snoc]
  by_cases e : zX w st p.1 p.2 = a ∧ zY w st p.1 p.2 = d
  · rw [if_pos e, e.1, e.2]; simp [upd]
  · have ne : 31 * d + a ≠ 31 * zY w st p.1 p.2 + zX w st p.1 p.2 := fun q => e ⟨by omega, by omega⟩
    rw [if_neg e]; simp only [upd, ne, if_false]
    exact h a d ha hd
def pwL (L : List (Nat × Nat)) (s : Nat) : Nat := L.countP (fun p => decide (p.1 = s) || decide (p.2 = s))
theorem pw_snoc {L : List (Nat × Nat)} {p : Nat × Nat} {s : Nat} : pwL (L ++ [p]) s = pwL L s + if p.1 = s ∨ p.2 = s then 1 else 0 := by
  unfold pwL
  rw [List.countP_append, List.countP_singleton]
  simp
def CPs (w h : Nat) (st : Nat → Nat) (L : List (Nat × Nat)) (c1 c2 : Nat → Int32) (np : Int32) (cpw cv : Nat → Int32) : Prop := RLs (0, 0) (fun p => qP w st p.1) L c1 ∧ RLs (0, 0) (fun p => qP w st p.2) L c2 ∧ np = nI L.length ∧ (∀ s, s < qN w h st → cpw (qP w st s) = nI (pwL L s)) ∧ RVc w st L cv
theorem c_wayOf {FU a b d : Nat} (ha : a < 16) (hb : b < 16) : f_X7_wayOf FU (nI b - nI a) (nI d) = some (nI (31 * d + (b + 15 - a))) := by
  unfold f_X7_wayOf
  rw [Int32.add_assoc, ax_ok a ha b hb, show (31 : Int32) = nI 31 from rfl, pk_mul, nI_add]
theorem c_addPair {FU w h s t : Nat} {st : Nat → Nat} {L : List (Nat × Nat)} {c1 c2 cpw cv : Nat → Int32} {np : Int32} (ho : OKs st) (hw : w ≤ 16) (hh : h ≤ 16) (hs : s < qN w h st) (ht : t < qN w h st) (hst : s < t) (hL0 : zFar w st s t = true → L.length < 2137) (hP : CPs w h st L c1 c2 np cpw cv) :
    Rt (f_X4_addPair FU c1 c2 np cpw cv (nI (qP w st s)) (nI (qP w st t)) (nI (st 4))) (fun q => CPs w h st (if zFar w st s t then L ++ [(s, t)] else L) q.1 q.2.1 q.2.2.1 q.2.2.2.1 q.2.2.2.2) := by
  have hr := ho.reach
  have q1 := qP_256 ho hw hh hs
  have q2 := qP_256 ho hw hh ht
  have hlt := (qP_lt (h := h) ho hw hs ht).mpr hst
  have hx := zX_31 (w := w) (st := st) (s := s) (t := t)
  have hy := zY_16 (w := w) (h := h) (st := st) (s := s) (t := t) ho hw hh ht
  have hd : zD (qP w st t % 16) (qP w st s % 16) < 32 := by unfold zD; omega
  obtain ⟨p1, p2, p3, p4, p5⟩ := hP
  subst p3
  unfold f_X4_addPair
  rw [md16 (by omega), md16 (by omega), dv16 (by omega), dv16 (by omega), pk_sub (pl_le ho hw hs ht hst), c_abs (by omega) (by omega)]
  have eY : qP w st t / 16 - qP w st s / 16 = zY w st s t := rfl
  rw [eY]
  refine rt_jn ?_
  dsimp only
  have add : L.length < 2137 → Rt (if nI L.length < 2137 then wr c1 2137 (nI L.length) (nI (qP w st s)) (fun c_first_4 => wr c2 2137 (nI L.length) (nI (qP w st t)) (fun c_second_5 => rd cpw 256 (nI (qP w st s)) (fun y_6 => wr cpw 256 (nI (qP w st s)) (y_6 + 1) (fun c_pairsWith_7 => rd c_pairsWith_7 256 (nI (qP w st t)) (fun y_8 => wr c_pairsWith_7 256 (nI (qP w st t)) (y_8 + 1) (fun c_pairsWith_9 => bd1 (f_X7_wayOf FU (nI (qP w st t % 16) - nI (qP w st s % 16)) (nI (zY w st s t))) (fun r_10 => rd cv 496 r_10 (fun y_11 => wr cv 496 r_10 (y_11 + 1) (fun c_voted_12 => some (c_first_4, c_second_5, (nI L.length + 1), c_pairsWith_9, c_voted_12)))))))))) else some (c1, c2, nI L.length, cpw, cv)) (fun q => CPs w h st (L ++ [(s, t)]) q.1 q.2.1 q.2.2.1 q.2.2.2.1 q.2.2.2.2) := by
    intro hL
    refine rt_t (by rw [show (2137 : Int32) = nI 2137 from rfl]; exact (by rw [n_lt (by omega) (by omega)]; omega)) ?_
    have ne : qP w st t ≠ qP w st s := by omega
    have ei : 31 * zY w st s t + (qP w st t % 16 + 15 - qP w st s % 16) = 31 * zY w st s t + zX w st s t := rfl
    rw [wr_ok (by omega) (by omega), wr_ok (by omega) (by omega), rd_ok q1 (by omega), wr_ok q1 (by omega), rd_ok q2 (by omega), wr_ok q2 (by omega), c_wayOf (by omega) (by omega), bd1_s, ei, rd_ok (by omega) (by omega), wr_ok (by omega) (by omega), p5 _ _ hx hy, nI_1, nI_1]
    refine rt_some ⟨RLs_snoc (p := (s, t)) p1, RLs_snoc (p := (s, t)) p2, by simp, ?_, RVc_snoc (p := (s, t)) p5 hx hy⟩
    intro u hu
    dsimp only
    rw [pw_snoc]
    have b1 := qP_inj (h := h) ho hw hu hs
    have b2 := qP_inj (h := h) ho hw hu ht
    by_cases e1 : u = t
    · subst e1
      rw [if_pos (Or.inr rfl)]
      simp only [upd, if_true, ne, if_false]
      rw [p4 u hu, nI_1]
    · have n2 : qP w st u ≠ qP w st t := fun z => e1 (b2 z)
      by_cases e2 : u = s
      · subst e2
        rw [if_pos (Or.inl rfl)]
        simp only [upd, if_true, n2, if_false]
        rw [p4 u hu, nI_1]
      · have n1 : qP w st u ≠ qP w st s := fun z => e2 (b1 z)
        rw [if_neg (by omega)]
        simp only [upd, n1, n2, if_false]
        exact p4 u hu
  unfold zFar at hL0 ⊢
  refine rt_if (fun c => ?_) (fun c => ?_)
  · rw [n_le (by omega) (by omega)] at c
    have hL := hL0 (by simp [c])
    rw [show (decide (st 4 ≤ zD (qP w st t % 16) (qP w st s % 16)) || decide (st 4 ≤ zY w st s t)) = true by simp [c]]
    exact rt_t rfl (add hL)
  · rw [n_le (by omega) (by omega)] at c
    refine rt_if (fun c2 => ?_) (fun c2 => ?_)
    · rw [n_le (by omega) (by omega)] at c2
      have hL := hL0 (by simp [c2])
      rw [show (decide (st 4 ≤ zD (qP w st t % 16) (qP w st s % 16)) || decide (st 4 ≤ zY w st s t)) = true by simp [c2]]
      exact rt_t rfl (add hL)
    · rw [n_le (by omega) (by omega)] at c2
      rw [show (decide (st 4 ≤ zD (qP w st t % 16) (qP w st s % 16)) || decide (st 4 ≤ zY w st s t)) = false by simp [c, c2]]
      exact rt_f (by decide) (rt_some ⟨p1, p2, rfl, p4, p5⟩)
/-- what the pairs need of the squares -/
def OS (w h : Nat) (g st : Nat → Nat) (o : Nat → Nat) (co cr ck cto : Nat → Int32) : Prop :=
  (∀ i, i < qN w h st → o i < qN w h st) ∧ (∀ i j, i < j → j < qN w h st → bef (zK w g st) (o i) (o j)) ∧ (∀ i, i < qN w h st → co i = nI (qP w st (o i))) ∧ (∀ s, s < qN w h st → cr (qP w st s) = nI (zR w h g st s)) ∧
  (∀ i, i < qN w h st → ∃ a b, KD (qN w h st) (fun i => zK w g st (o i)) i a b ∧ ck (qP w st (o i)) = nI i ∧ cto (qP w st (o i)) = nI b)
theorem CSq.os {w h : Nat} {g st : Nat → Nat} {co cl cx cr : Nat → Int32} {ch ct : Nat → Int64} {ck cf cto : Nat → Int32} {csd ca cd cn cfl ccr cki : Int32} (hq : CSq w h g st co cl cx cr ch ct ck cf cto csd ca cd cn cfl ccr cki) : ∃ o, OS w h g st o co cr ck cto := by
  obtain ⟨o, o1, o2, o3, o4, o5, _⟩ := hq
  refine ⟨o, o1, o2, o3, fun s hs => (o4 s hs).2.2.1, fun i hi => ?_⟩
  obtain ⟨a, b, k1, k2, k3, k4⟩ := o5 i hi
  exact ⟨a, b, k1, k2, k4⟩
theorem o_lt {κ o : Nat → Nat} {N i j : Nat} (h : ∀ i j, i < j → j < N → bef κ (o i) (o j)) (hi : i < N) (hj : j < N) (hb : bef κ (o i) (o j)) : i < j := by
  rcases Nat.lt_trichotomy i j with q | q | q
  · exact q
  · subst q; exact absurd hb bef_irr
  · exact absurd (bef_trans hb (h j i q hi)) bef_irr
theorem zE_K {w h : Nat} {g st : Nat → Nat} {s t : Nat} (hn : zK w g st s ≠ zK w g st t) : zE w h g st s t = false := by
  unfold zE zPr
  simp [hn]
theorem c_pu20 {w h i a b : Nat} {g st o : Nat → Nat} {co cr ck cto : Nat → Int32} {k : _} {P : _} (ho : OKs st) (hw : w ≤ 16) (hh : h ≤ 16) (hO : OS w h g st o co cr ck cto) (hi : i < qN w h st) (hK : KD (qN w h st) (fun i => zK w g st (o i)) i a b) (hb : cto (qP w st (o i)) = nI b) (h0 : zR w h g st (o i) = 0) :
    ∀ (d j fuel : Nat) (c1 c2 : Nat → Int32) (np : Int32) (cpw cv : Nat → Int32), j + d = b → d < fuel → i < j → CPs w h st (prO w h g st (o i) ++ prI w h g st (o i) (o (j - 1) + 1)) c1 c2 np cpw cv →
      (∀ (z : Int32) (c1 c2 : Nat → Int32) (np : Int32) (cpw cv : Nat → Int32), CPs w h st (prO w h g st (o i + 1)) c1 c2 np cpw cv → Rt (k z c1 c2 np cpw cv) P) →
      Rt (f_X4_pairUp_L20 FU (nI (qP w st (o i))) (nI (st 4)) co cr cto k fuel (nI j) c1 c2 np cpw cv) P := by
  have hN := qN_225 (w := w) (h := h) ho hw hh
  have h21 := pr_2137 (w := w) (h := h) (g := g) ho hw hh
  obtain ⟨o1, o2, o3, o4, o5⟩ := hO
  obtain ⟨k1, k2, k3, k4⟩ := hK
  dsimp only at k4
  have oj := bef_inj o2
  have q1 := qP_256 ho hw hh (o1 i hi)
  have inc : ∀ x y, a ≤ x → x < y → y < b → o x < o y := by
    intro x y h1 h2 h3
    have e1 := (k4 x (by omega)).mpr ⟨h1, (by omega)⟩
    have e2 := (k4 y (by omega)).mpr ⟨(by omega), h3⟩
    have := o2 x y h2 (by omega)
    unfold bef at this
    omega
  have gap : ∀ j, i < j → j < b → ∀ t, o (j - 1) + 1 ≤ t → t < o j → zE w h g st (o i) t = false := by
    intro j h1 h2 t h3 h4
    refine zE_K (fun q => ?_)
    obtain ⟨x, hx, e⟩ := fb_onto o1 oj (y := t) (Nat.lt_trans h4 (o1 j (by omega)))
    subst e
    have hx2 := (k4 x hx).mp q.symm
    rcases Nat.lt_or_ge x j with z | z
    · rcases Nat.lt_or_ge x (j - 1) with z2 | z2
      · have := inc x (j - 1) hx2.1 z2 (by omega); omega
      · have : x = j - 1 := by omega
        subst this; omega
    · rcases Nat.lt_or_ge j x with z2 | z2
      · have := inc j x (by omega) z2 hx2.2; omega
      · have : x = j := by omega
        subst this; omega
  have gapN : ∀ t, o (b - 1) + 1 ≤ t → t < qN w h st → zE w h g st (o i) t = false := by
    intro t h3 h4
    refine zE_K (fun q => ?_)
    obtain ⟨x, hx, e⟩ := fb_onto o1 oj (y := t) h4
    subst e
    have hx2 := (k4 x hx).mp q.symm
    rcases Nat.lt_or_ge x (b - 1) with z | z
    · have := inc x (b - 1) hx2.1 z (by omega); omega
    · have : x = b - 1 := by omega
      subst this; omega
  intro d
  induction d with
  | zero =>
    intro j fuel c1 c2 np cpw cv e1 e2 e3 hp hk
    obtain ⟨f, rfl⟩ : ∃ f, fuel = f + 1 := ⟨fuel - 1, by omega⟩
    have ej : j = b := by omega
    subst ej
    rw [f_X4_pairUp_L20, rd_ok q1 (by omega), hb]
    refine rt_t (by rw [n_le (by omega) (by omega)]; omega) (hk _ _ _ _ _ _ ?_)
    rw [prO_s]
    have hbn := o1 (j - 1) (by omega)
    have := prI_none (w := w) (h := h) (g := g) (st := st) (s := o i) (a := o (j - 1) + 1) (qN w h st - (o (j - 1) + 1)) (fun t h1 h2 => gapN t h1 (by omega))
    rw [show o (j - 1) + 1 + (qN w h st - (o (j - 1) + 1)) = qN w h st by omega] at this
    rw [this]
    exact hp
  | succ d ih =>
    intro j fuel c1 c2 np cpw cv e1 e2 e3 hp hk
    obtain ⟨f, rfl⟩ : ∃ f, fuel = f + 1 := ⟨fuel - 1, by omega⟩
    have hj : j < qN w h st := by omega
    have q2 := qP_256 ho hw hh (o1 j hj)
    rw [f_X4_pairUp_L20, rd_ok q1 (by omega), hb]
    refine rt_f (by rw [n_le (by omega) (by omega)]; omega) ?_
    have ko : zK w g st (o j) = zK w g st (o i) := (k4 j hj).mpr ⟨(by omega), (by omega)⟩
    have lo : o i < o j := inc i j k1 e3 (by omega)
    have l1 : o (j - 1) < o j := inc (j - 1) j (by omega) (by omega) (by omega)
    have eg := prI_none (w := w) (h := h) (g := g) (st := st) (s := o i) (a := o (j - 1) + 1) (o j - (o (j - 1) + 1)) (fun t h1 h2 => gap j e3 (by omega) t h1 (by omega))
    rw [show o (j - 1) + 1 + (o j - (o (j - 1) + 1)) = o j by omega] at eg
    have es := prI_s w h g st (o i) (o j)
    rw [eg] at es
    have hpre := pr_pre (w := w) (h := h) (g := g) (st := st) (s := o i) (t := o j + 1) (o1 i hi) (by have := o1 j hj; omega)
    have r1 : zR w h g st (o j) ≤ 2 := by unfold zR roP; split; omega; split <;> omega
    rw [rd_ok (by omega) (by omega), o3 j hj, rd_ok q2 (by omega), o4 _ (o1 j hj), nI_1]
    rw [es] at hpre
    generalize eL : prO w h g st (o i) ++ prI w h g st (o i) (o (j - 1) + 1) = L at *
    refine rt_if (fun c => ?_) (fun c => ?_)
    · rw [show (0 : Int32) = nI 0 from rfl, n_inj (by omega) (by omega)] at c
      have ez : zE w h g st (o i) (o j) = zFar w st (o i) (o j) := by
        unfold zE zPr
        simp [lo, ko, h0, c]
      rw [ez] at es hpre
      refine rt_bd5 (c_addPair ho hw hh (o1 i hi) (o1 j hj) lo ?_ hp) ?_
      · intro cf
        rw [if_pos cf, ← List.append_assoc, eL, List.length_append] at hpre
        simp only [List.length_singleton] at hpre
        omega
      · intro a1 a2 a3 a4 a5 hz
        refine ih (j + 1) f _ _ _ _ _ (by omega) (by omega) (by omega) ?_ hk
        rw [show j + 1 - 1 = j by omega, es, ← List.append_assoc, eL]
        by_cases cf : zFar w st (o i) (o j) = true
        · rw [if_pos cf] at hz ⊢; exact hz
        · rw [if_neg cf] at hz ⊢; rw [List.append_nil]; exact hz
    · rw [show (0 : Int32) = nI 0 from rfl, n_inj (by omega) (by omega)] at c
      have ez : zE w h g st (o i) (o j) = false := by
        unfold zE zPr
        simp [c]
      rw [ez] at es
      refine ih (j + 1) f _ _ _ _ _ (by omega) (by omega) (by omega) ?_ hk
      rw [show j + 1 - 1 = j by omega, es]
      simp only [Bool.false_eq_true, if_false, List.append_nil]
      rw [eL]
      exact hp
theorem c_pairUp {w h s : Nat} {g st o : Nat → Nat} {co cr ck cto c1 c2 cpw cv : Nat → Int32} {np : Int32} (ho : OKs st) (hw : w ≤ 16) (hh : h ≤ 16) (hO : OS w h g st o co cr ck cto) (hs : s < qN w h st) (hp : CPs w h st (prO w h g st s) c1 c2 np cpw cv) :
    Rt (f_X4_pairUp FU co cr ck cto c1 c2 np cpw cv (nI (qP w st s)) (nI (st 4))) (fun q => CPs w h st (prO w h g st (s + 1)) q.1 q.2.1 q.2.2.1 q.2.2.2.1 q.2.2.2.2) := by
  have hN := qN_225 (w := w) (h := h) ho hw hh
  have q1 := qP_256 ho hw hh hs
  have r1 : zR w h g st s ≤ 2 := by unfold zR roP; split; omega; split <;> omega
  unfold f_X4_pairUp
  rw [rd_ok q1 (by omega), hO.2.2.2.1 s hs]
  refine rt_if (fun c => ?_) (fun c => ?_)
  · rw [show (0 : Int32) = nI 0 from rfl, n_inj (by omega) (by omega)] at c
    obtain ⟨i, hi, e⟩ := fb_onto hO.1 (bef_inj hO.2.1) hs
    obtain ⟨a, b, k1, k2, k3⟩ := hO.2.2.2.2 i hi
    subst e
    rw [rd_ok q1 (by omega), k2, nI_1]
    refine c_pu20 ho hw hh hO hi k1 k3 c (b - (i + 1)) (i + 1) FU c1 c2 np cpw cv (by have := k1.2.1; omega) (by have := k1.2.2.1; unfold FU; omega) (by omega) ?_ ?_
    · rw [show i + 1 - 1 = i by omega, prI_low, List.append_nil]; exact hp
    · intro z c1 c2 np cpw cv hz
      exact rt_some hz
  · rw [show (0 : Int32) = nI 0 from rfl, n_inj (by omega) (by omega)] at c
    refine rt_some ?_
    have : prI w h g st s (qN w h st) = [] := by
      have h0 := prI_none (w := w) (h := h) (g := g) (st := st) (s := s) (a := 0) (qN w h st) (fun t _ _ => by unfold zE zPr; simp [c])
      rw [Nat.zero_add] at h0
      exact h0
    rw [prO_s, this, List.append_nil]
    exact hp
theorem c_ga70 {w h y : Nat} {g st o : Nat → Nat} {cs co cr ck cto : Nat → Int32} {k : _} {P : _} (hS : RepS cs st) (ho : OKs st) (hw : w ≤ 16) (hh : h ≤ 16) (hO : OS w h g st o co cr ck cto) (hy : y < qA h st) :
    ∀ (d x fuel : Nat) (c1 c2 : Nat → Int32) (np : Int32) (cpw cv : Nat → Int32), x + d = qA w st → d < fuel → CPs w h st (prO w h g st (qA w st * y + x)) c1 c2 np cpw cv →
      (∀ (z : Int32) (c1 c2 : Nat → Int32) (np : Int32) (cpw cv : Nat → Int32), CPs w h st (prO w h g st (qA w st * (y + 1))) c1 c2 np cpw cv → Rt (k z c1 c2 np cpw cv) P) →
      Rt (f_X4_gather_L70 FU (nI y) cs co cr ck cto (nI (qA w st)) k fuel (nI x) c1 c2 np cpw cv) P := by
  have hA := qA_15 ho hw
  have hB := qA_15 ho hh
  intro d
  induction d with
  | zero =>
    intro x fuel c1 c2 np cpw cv e1 e2 hp hk
    obtain ⟨f, rfl⟩ : ∃ f, fuel = f + 1 := ⟨fuel - 1, by omega⟩
    have ex : x = qA w st := by omega
    have e3 : qA w st * y + x = qA w st * (y + 1) := by rw [Nat.mul_add, ex, Nat.mul_one]
    rw [f_X4_gather_L70]
    rw [e3] at hp
    exact rt_t (by rw [n_le (by omega) (by omega)]; omega) (hk _ _ _ _ _ _ hp)
  | succ d ih =>
    intro x fuel c1 c2 np cpw cv e1 e2 hp hk
    obtain ⟨f, rfl⟩ : ∃ f, fuel = f + 1 := ⟨fuel - 1, by omega⟩
    have hx : x < qA w st := by omega
    have hn : qA w st * y + x < qN w h st := by
      have h1 : qA w st * (y + 1) ≤ qA w st * qA h st := Nat.mul_le_mul_left _ hy
      rw [Nat.mul_add] at h1
      unfold qN
      omega
    rw [f_X4_gather_L70]
    refine rt_f (by rw [n_le (by omega) (by omega)]; omega) ?_
    rw [show (4 : Int32) = nI 4 from rfl, rd_ok (by omega) (by omega), hS 4 (by omega), p16, ← qP_xy hx, nI_1]
    refine rt_bd5 (c_pairUp ho hw hh hO hn hp) ?_
    intro a1 a2 a3 a4 a5 hz
    exact ih (x + 1) f _ _ _ _ _ (by omega) (by omega) hz hk
theorem c_ga59 {w h : Nat} {g st o : Nat → Nat} {cs co cr ck cto : Nat → Int32} {k : _} {P : _} (hS : RepS cs st) (ho : OKs st) (hw : w ≤ 16) (hh : h ≤ 16) (hO : OS w h g st o co cr ck cto) :
    ∀ (d y fuel : Nat) (c1 c2 : Nat → Int32) (np : Int32) (cpw cv : Nat → Int32), y + d = qA h st → d < fuel → CPs w h st (prO w h g st (qA w st * y)) c1 c2 np cpw cv →
      (∀ (z : Int32) (c1 c2 : Nat → Int32) (np : Int32) (cpw cv : Nat → Int32), CPs w h st (prL w h g st) c1 c2 np cpw cv → Rt (k z c1 c2 np cpw cv) P) →
      Rt (f_X4_gather_L59 FU cs co cr ck cto (nI (qA w st)) (nI (qA h st)) k fuel (nI y) c1 c2 np cpw cv) P := by
  have hA := qA_15 ho hw
  have hB := qA_15 ho hh
  intro d
  induction d with
  | zero =>
    intro y fuel c1 c2 np cpw cv e1 e2 hp hk
    obtain ⟨f, rfl⟩ : ∃ f, fuel = f + 1 := ⟨fuel - 1, by omega⟩
    have ey : y = qA h st := by omega
    have e3 : qA w st * y = qN w h st := by rw [ey]; rfl
    rw [f_X4_gather_L59]
    rw [e3] at hp
    exact rt_t (by rw [n_le (by omega) (by omega)]; omega) (hk _ _ _ _ _ _ hp)
  | succ d ih =>
    intro y fuel c1 c2 np cpw cv e1 e2 hp hk
    obtain ⟨f, rfl⟩ : ∃ f, fuel = f + 1 := ⟨fuel - 1, by omega⟩
    rw [f_X4_gather_L59]
    refine rt_f (by rw [n_le (by omega) (by omega)]; omega) ?_
    refine c_ga70 (g := g) hS ho hw hh hO (by omega : y < qA h st) (qA w st) 0 FU c1 c2 np cpw cv (by omega) (by unfold FU; omega) hp ?_
    intro z c1 c2 np cpw cv hp'
    rw [nI_1]
    exact ih (y + 1) f c1 c2 np cpw cv (by omega) (by omega) hp' hk
theorem c_ga29 {k : _} {P : _} : ∀ (d i fuel : Nat) (cv cn : Nat → Int32), i + d = 496 → d < fuel → (∀ j, j < i → cv j = 0 ∧ cn j = -9) → (∀ (z : Int32) (cv' cn' : Nat → Int32), (∀ j, j < 496 → cv' j = 0 ∧ cn' j = -9) → Rt (k z cv' cn') P) → Rt (f_X4_gather_L29 FU k fuel (nI i) cv cn) P := by
  intro d
  induction d with
  | zero =>
    intro i fuel cv cn e1 e2 hc hk
    obtain ⟨f, rfl⟩ : ∃ f, fuel = f + 1 := ⟨fuel - 1, by omega⟩
    rw [f_X4_gather_L29]
    exact rt_t (by rw [show (496 : Int32) = nI 496 from rfl]; exact (by rw [n_le (by omega) (by omega)]; omega)) (hk _ _ _ (fun j hj => hc j (by omega)))
  | succ d ih =>
    intro i fuel cv cn e1 e2 hc hk
    obtain ⟨f, rfl⟩ : ∃ f, fuel = f + 1 := ⟨fuel - 1, by omega⟩
    rw [f_X4_gather_L29]
    refine rt_f (by rw [show (496 : Int32) = nI 496 from rfl]; exact (by rw [n_le (by omega) (by omega)]; omega)) ?_
    rw [wr_ok (by omega) (by omega), wr_ok (by omega) (by omega), nI_1]
    refine ih (i + 1) f _ _ (by omega) (by omega) (fun j hj => ?_) hk
    by_cases e : j = i
    · subst e; simp [upd]
    · simp [upd, e, hc j (by omega)]
theorem c_ga7 {k : _} {P : _} : ∀ (d i fuel : Nat) (cv : Nat → Int32), i + d = 256 → d < fuel → (∀ j, j < i → cv j = 0) → (∀ (z : Int32) (cv' : Nat → Int32), (∀ j, j < 256 → cv' j = 0) → Rt (k z cv') P) → Rt (f_X4_gather_L7 FU k fuel (nI i) cv) P := by
  intro d
  induction d with
  | zero =>
    intro i fuel cv e1 e2 hc hk
    obtain ⟨f, rfl⟩ : ∃ f, fuel = f + 1 := ⟨fuel - 1, by omega⟩
    rw [f_X4_gather_L7]
    exact rt_t (by rw [show (256 : Int32) = nI 256 from rfl]; exact (by rw [n_le (by omega) (by omega)]; omega)) (hk _ _ (fun j hj => hc j (by omega)))
  | succ d ih =>
    intro i fuel cv e1 e2 hc hk
    obtain ⟨f, rfl⟩ : ∃ f, fuel = f + 1 := ⟨fuel - 1, by omega⟩
    rw [f_X4_gather_L7]
    refine rt_f (by rw [show (256 : Int32) = nI 256 from rfl]; exact (by rw [n_le (by omega) (by omega)]; omega)) ?_
    rw [wr_ok (by omega) (by omega), nI_1]
    refine ih (i + 1) f _ (by omega) (by omega) (fun j hj => ?_) hk
    by_cases e : j = i
    · subst e; simp [upd]
    · simp [upd, e, hc j (by omega)]
