/-! findings: what they are -/
noncomputable def zv (w h : Nat) (g st : Nat → Nat) (r : Nat) : Nat := zT w h g st (zE2 w h g st r).1
noncomputable def zp (w h : Nat) (g st : Nat → Nat) (r : Nat) : Nat := (zE2 w h g st r).2
noncomputable def zOf (w h : Nat) (g st : Nat → Nat) (r : Nat) : Int := if st 2 = 1 then (qMn g st (cpP (zv w h g st r) (zp w h g st r)) : Int) - qMn g st (zp w h g st r) else 0
def zWd (w h : Nat) (g st : Nat → Nat) (r : Nat) : Nat → Prop := wdn (st 0) (zRA w h g st r)
def zOp (w h : Nat) (g st : Nat → Nat) (r : Nat) : Nat → Prop := opn w h g (zv w h g st r) (zOf w h g st r) (st 7)
def zGr (w h : Nat) (g st : Nat → Nat) (r : Nat) : Nat → Prop := Cl (zOp w h g st r) (zWd w h g st r)
noncomputable def zHd (w h : Nat) (g st : Nat → Nat) (r : Nat) : Nat := cnt (zGr w h g st r)
theorem zOf_99 (w h : Nat) (g st : Nat → Nat) (r : Nat) : -99 ≤ zOf w h g st r ∧ zOf w h g st r ≤ 99 := by
  have h1 : qMn g st (cpP (zv w h g st r) (zp w h g st r)) ≤ 99 := qMn_99
  have h2 : qMn g st (zp w h g st r) ≤ 99 := qMn_99
  unfold zOf
  split <;> omega
theorem zv_496 {w h : Nat} {g st : Nat → Nat} (hs : SHc w h g st) {r : Nat} (hr : r < (zRL w h g st).length) : zv w h g st r < 496 := hs.T (zE2_mem hr).1
/-- a place of a region is one of a square -/
theorem zRA_sq {w h : Nat} {g st : Nat → Nat} (ho : OKs st) (hw : w ≤ 16) {r : Nat} (hr : r < (zRL w h g st).length) {p : Nat} (hp : zRA w h g st r p) : ∃ s, s < qN w h st ∧ qP w st s = p := (zW_in ho hw (rgS_W (rgA_in (zE2_mem hr).2.2 hp))).2.2
theorem sq_in {w h : Nat} {st : Nat → Nat} (ho : OKs st) {s : Nat} (hs : s < qN w h st) : qP w st s % 16 + st 0 ≤ w ∧ qP w st s / 16 + st 0 ≤ h ∨ 16 < w := by
  have hsd := ho.side
  obtain ⟨x, y, hx, hy, he⟩ := q_xy hs
  have hxy : qP w st s = 16 * y + x := by rw [he, qP_xy hx]
  unfold qA at hx hy
  by_cases c : 16 < w
  · exact Or.inr c
  · left; rw [hxy]; omega
theorem zRA_in {w h : Nat} {g st : Nat → Nat} (ho : OKs st) (hw : w ≤ 16) {r : Nat} (hr : r < (zRL w h g st).length) {p : Nat} (hp : zRA w h g st r p) : p % 16 + st 0 ≤ w ∧ p / 16 + st 0 ≤ h := by
  obtain ⟨s, h1, h2⟩ := zRA_sq ho hw hr hp
  rw [← h2]
  rcases sq_in ho h1 with z | z
  · exact z
  · omega
theorem zp_RA {w h : Nat} {g st : Nat → Nat} {r : Nat} (hr : r < (zRL w h g st).length) : zRA w h g st r (zp w h g st r) := cl_seed (zE2_mem hr).2.1 rfl
/-- the first place's copy is the second square's place -/
theorem zp_pair {w h : Nat} {g st : Nat → Nat} (ho : OKs st) (hw : w ≤ 16) (hh : h ≤ 16) {r : Nat} (hr : r < (zRL w h g st).length) : ∃ s t, s < qN w h st ∧ t < qN w h st ∧ qP w st s = zp w h g st r ∧ qP w st t = cpP (zv w h g st r) (zp w h g st r) ∧ cpI w h (zv w h g st r) (zp w h g st r) := by
  have hW : zW w h g st (zE2 w h g st r).1 (zp w h g st r) := rgS_W (zE2_mem hr).2.2
  obtain ⟨j, hj, h1, h2, h3⟩ := hW
  have hm := prL_mem.mp (getD_mem (z := (0, 0)) hj)
  generalize (prL w h g st).getD j (0, 0) = e at *
  have hs1 : e.1 < qN w h st := by omega
  have hle := pl_le ho hw hs1 hm.2.1 hm.1
  have q2 := qP_256 ho hw hh hm.2.1
  have i2 := sq_in (w := w) (h := h) ho hm.2.1
  have hsd := ho.side
  refine ⟨e.1, e.2, hs1, hm.2.1, h3, ?_, ?_⟩
  · unfold cpP zv
    rw [← h1, ← h2, ← h3]
    unfold zX zY
    omega
  · unfold cpI zv
    rw [← h1, ← h2, ← h3]
    unfold zX zY
    omega
theorem c_lift {w h r ob : Nat} {g st : Nat → Nat} {cl fs fx fy fp fn fo : Nat → Int32} (ho : OKs st) (hw : w ≤ 16) (hh : h ≤ 16) (hs : SHc w h g st) (hr : r < (zRL w h g st).length) (hL : ∀ s, s < qN w h st → cl (qP w st s) = nI (qMn g st (qP w st s))) (hF : FH w h g st fs fx fy fp fn r ob) :
    Rt (f_X0_lift FU cl fx fy fp fo ob (nI (st 2))) (fun q => (q ob).toInt = zOf w h g st r ∧ ∀ o, o ≠ ob → q o = fo o) := by
  have hm := ho.man
  obtain ⟨f1, f2, f3, f4, f5⟩ := hF
  obtain ⟨s, t, hs1, ht1, es, et, hc⟩ := zp_pair ho hw hh hr
  have q1 := qP_256 ho hw hh hs1
  have q2 := qP_256 ho hw hh ht1
  have hv := zv_496 hs hr
  have e2 : fx ob = nI (zv w h g st r % 31) - 15 := f2
  have e3 : fy ob = nI (zv w h g st r / 31) := f3
  have e4 : fp ob = nI (zp w h g st r) := f4
  have epl : (fp ob + 16 * fy ob) + fx ob = nI (cpP (zv w h g st r) (zp w h g st r)) := by
    rw [e2, e3, e4, show (16 : Int32) = nI 16 from rfl, pk_mul, nI_add, Int32.sub_eq_add_neg, ← Int32.add_assoc, nI_add, ← Int32.sub_eq_add_neg, show (15 : Int32) = nI 15 from rfl, pk_sub (by unfold cpI at hc; omega)]
    congr 1
    unfold cpI at hc
    unfold cpP
    omega
  unfold f_X0_lift
  rw [epl, e4]
  have fin : ∀ v : Int32, v.toInt = zOf w h g st r → Rt (some (upd fo ob v)) (fun q => (q ob).toInt = zOf w h g st r ∧ ∀ o, o ≠ ob → q o = fo o) := by
    intro v hv
    refine rt_some ⟨?_, fun o h1 => ?_⟩
    · simp only [upd, if_true]; exact hv
    · simp only [upd, h1, if_false]
  refine rt_jn ?_
  dsimp only
  refine rt_if (fun c => ?_) (fun c => ?_)
  · rw [show (1 : Int32) = nI 1 from rfl, n_inj (by omega) (by omega)] at c
    rw [wi_eq, show f_X8_within FU (nI (cpP (zv w h g st r) (zp w h g st r))) 0 255 = some 1 from wi_in (a := 0) (b := 255) (n := cpP (zv w h g st r) (zp w h g st r)) (by omega) ⟨by omega, by omega, rfl⟩, bd1_s]
    refine rt_f (by decide) (rt_jn ?_)
    dsimp only
    refine rt_f (by decide) ?_
    rw [rd_ok (by omega) (by omega), rd_ok (by omega) (by omega), ← et, ← es, hL t ht1, hL s hs1, et, es]
    refine fin _ ?_
    have b1 : qMn g st (cpP (zv w h g st r) (zp w h g st r)) ≤ 99 := qMn_99
    have b2 : qMn g st (zp w h g st r) ≤ 99 := qMn_99
    rw [pk_sub_toInt (by omega) (by omega)]
    unfold zOf
    rw [if_pos c]
  · rw [show (1 : Int32) = nI 1 from rfl, n_inj (by omega) (by omega)] at c
    refine rt_jn ?_
    dsimp only
    refine rt_t rfl (fin 0 ?_)
    unfold zOf
    rw [if_neg c]
    decide
/-- an object holds a finding that has grown -/
def GW (w h : Nat) (g st : Nat → Nat) (cr : Nat → Nat → Int32) (fs fx fy fp fn fo fpf fpl : Nat → Int32) (r ob : Nat) : Prop :=
  RB (cr ob) (zGr w h g st r) ∧ FH w h g st fs fx fy fp fn r ob ∧ (fo ob).toInt = zOf w h g st r ∧ fpf ob = nI (cnt (zWd w h g st r)) ∧ fpl ob = nI (zHd w h g st r)
theorem c_gAhead {w h : Nat} {g st : Nat → Nat} {cr : Nat → Nat → Int32} {fs fx fy fp fn fo fpf fpl : Nat → Int32} {r r' o o' : Nat} (hs : SHc w h g st) (hr : r < (zRL w h g st).length) (hr' : r' < (zRL w h g st).length) (hne : r ≠ r') (h1 : GW w h g st cr fs fx fy fp fn fo fpf fpl r o) (h2 : GW w h g st cr fs fx fy fp fn fo fpf fpl r' o') :
    Rt (f_X0_isAhead FU fs fp fn fpl o o' (nI 1)) (fun v => v = 0 ↔ ¬ ahN (zHd w h g st) r r') := by
  have hK := hs.K8
  have m1 := zE2_mem hr
  have m2 := zE2_mem hr'
  have s1 : zHd w h g st r ≤ 256 := cnt_256 _
  have s2 : zHd w h g st r' ≤ 256 := cnt_256 _
  have no : ∀ q : Prop, q → (((0 : Int32) = 0) ↔ q) := fun q hq => ⟨fun _ => hq, fun _ => rfl⟩
  have yes : ∀ q : Prop, ¬ q → (((1 : Int32) = 0) ↔ q) := fun q hq => ⟨fun z => absurd z (by decide), fun z => absurd z hq⟩
  have lx : r < r' ↔ lexP (zE2 w h g st r) (zE2 w h g st r') := by
    constructor
    · intro z; exact zE2_lex z hr'
    · intro z
      rcases Nat.lt_or_ge r r' with y | y
      · exact y
      · have := zE2_lex (by omega : r' < r) hr
        unfold lexP at z this
        omega
  unfold f_X0_isAhead
  refine rt_jn ?_
  dsimp only
  refine rt_f (by decide) (rt_jn ?_)
  dsimp only
  refine rt_f (by decide) ?_
  obtain ⟨_, ⟨a1, _, _, a4, _⟩, _, _, a5⟩ := h1
  obtain ⟨_, ⟨b1, _, _, b4, _⟩, _, _, b5⟩ := h2
  rw [a1, a4, a5, b1, b4, b5]
  unfold lexP at lx
  refine rt_if (fun c => ?_) (fun c => ?_)
  · rw [n_inj (by omega) (by omega)] at c
    refine rt_if (fun c2 => ?_) (fun c2 => ?_)
    · rw [n_inj (by omega) (by omega)] at c2
      refine rt_if (fun c3 => ?_) (fun c3 => ?_)
      · rw [n_le (by omega) (by omega)] at c3
        exact rt_some (no _ (by unfold ahN; omega))
      · rw [n_le (by omega) (by omega)] at c3
        exact rt_some (yes _ (by unfold ahN; omega))
    · rw [n_inj (by omega) (by omega)] at c2
      refine rt_if (fun c3 => ?_) (fun c3 => ?_)
      · rw [n_le (by omega) (by omega)] at c3
        exact rt_some (no _ (by unfold ahN; omega))
      · rw [n_le (by omega) (by omega)] at c3
        exact rt_some (yes _ (by unfold ahN; omega))
  · rw [n_inj (by omega) (by omega)] at c
    refine rt_if (fun c3 => ?_) (fun c3 => ?_)
    · rw [n_le (by omega) (by omega)] at c3
      exact rt_some (no _ (by unfold ahN; omega))
    · rw [n_le (by omega) (by omega)] at c3
      exact rt_some (yes _ (by unfold ahN; omega))
/-- how far the class's findings have grown -/
def CW (w h : Nat) (g st : Nat → Nat) (K k : Nat) (T T' l : Nat → Nat) (cr : Nat → Nat → Int32) (fs fx fy fp fn fo fpf fpl : Nat → Int32) : Prop :=
  LPm l ∧ (∀ i, i < k → GW w h g st cr fs fx fy fp fn fo fpf fpl (T' i) (l i)) ∧ (∀ i, k ≤ i → i < K → RB (cr (l i)) (zRA w h g st (T i)) ∧ FH w h g st fs fx fy fp fn (T i) (l i)) ∧
  (∀ i j, i < j → j < k → ahN (zHd w h g st) (T' i) (T' j)) ∧ (∀ i, i < k → ∃ j, j < k ∧ T j = T' i) ∧ (∀ j, j < k → ∃ i, i < k ∧ T' i = T j)
theorem c_gw3 {w h K : Nat} {g st T : Nat → Nat} {cg cs cl fs fx fy fp fn : Nat → Int32} {kk : _} {P : _} (hG : RepG cg g) (hS : RepS cs st) (hg : ∀ q, q < 256 → g q ≤ 99) (ho : OKs st) (hw : w ≤ 16) (hh : h ≤ 16) (hs : SHc w h g st) (hL : ∀ s, s < qN w h st → cl (qP w st s) = nI (qMn g st (qP w st s))) (hK : K ≤ 24) (hT : ∀ i, i < K → T i < (zRL w h g st).length) (hTn : ∀ i j, i < j → j < K → T i ≠ T j) :
    ∀ (d k fuel : Nat) (T' l : Nat → Nat) (co : Nat → Int32) (cr : Nat → Nat → Int32) (fo fpf fpl : Nat → Int32), k + d = K → d < fuel → CW w h g st K k T T' l cr fs fx fy fp fn fo fpf fpl →
      (∀ (z : Int32) (T' l : Nat → Nat) (co : Nat → Int32) (cr : Nat → Nat → Int32) (fo fpf fpl : Nat → Int32), CW w h g st K K T T' l cr fs fx fy fp fn fo fpf fpl → Rt (kk z l co cr fo fpf fpl) P) →
      Rt (f_X1_grow_L3 FU cg (nI w) (nI h) cs cl (nI K) fs fx fy fp fn kk fuel (nI k) l co cr fo fpf fpl) P := by
  have hsd := ho.side
  have hsl := ho.slack
  intro d
  induction d with
  | zero =>
    intro k fuel T' l co cr fo fpf fpl e1 e2 hC hk
    obtain ⟨f, rfl⟩ : ∃ f, fuel = f + 1 := ⟨fuel - 1, by omega⟩
    have ek : k = K := by omega
    subst ek
    rw [f_X1_grow_L3]
    exact rt_t (by rw [n_le (by omega) (by omega)]; omega) (hk _ T' _ _ _ _ _ _ hC)
  | succ d ih =>
    intro k fuel T' l co cr fo fpf fpl e1 e2 hC hk
    obtain ⟨f, rfl⟩ : ∃ f, fuel = f + 1 := ⟨fuel - 1, by omega⟩
    obtain ⟨h1, h2, h3, h4, h5, h6⟩ := hC
    have b1 := h1.1 k (by omega)
    obtain ⟨u1, u2⟩ := h3 k (Nat.le_refl _) (by omega)
    have hr := hT k (by omega)
    rw [f_X1_grow_L3]
    refine rt_f (by rw [n_le (by omega) (by omega)]; omega) ?_
    rw [rdn_ok (by omega) (by omega), lt25_ok b1, show (2 : Int32) = nI 2 from rfl, rd_ok (by omega) (by omega), hS 2 (by omega)]
    refine rt_bd1 (c_lift (fo := fo) ho hw hh hs hr hL u2) ?_
    intro fo' hfo
    obtain ⟨o1, o2⟩ := hfo
    rw [rdn_ok (by omega) (by omega), lt25_ok b1, show (0 : Int32) = nI 0 from rfl, rd_ok (by omega) (by omega), hS 0 (by omega), show (7 : Int32) = nI 7 from rfl, rd_ok (by omega) (by omega), hS 7 (by omega), nI_1]
    refine rt_bd4 (c_growF (s := st 0) (v := zv w h g st (T k)) (of := zOf w h g st (T k)) hw hh (zv_496 hs hr) hG hg u2.2.1 u2.2.2.1 o1 (zOf_99 _ _ _ _ _) hsl (by omega) (by omega) u1 (fun p hp ha => by have := zRA_in ho hw hr ha; omega)) ?_
    intro a1 a2 a3 a4 hz
    obtain ⟨z1, z2, z3, z4⟩ := hz
    dsimp only at z1 z2 z3 z4
    have gk : GW w h g st a2 fs fx fy fp fn fo' a3 a4 (T k) (l k) := by
      refine ⟨z1, u2, o1, ?_, ?_⟩
      · rw [z3]; simp only [upd, if_true]; rfl
      · rw [z4]; simp only [upd, if_true]; rfl
    have go : ∀ i, i < k → GW w h g st a2 fs fx fy fp fn fo' a3 a4 (T' i) (l i) := by
      intro i hi
      have ne : l i ≠ l k := fun e => by have := h1.inj (by omega) (by omega) e; omega
      obtain ⟨y1, y2, y3, y4, y5⟩ := h2 i hi
      refine ⟨by rw [z2 _ ne]; exact y1, y2, by rw [o2 _ ne]; exact y3, ?_, ?_⟩
      · rw [z3]; simp only [upd, ne, if_false]; exact y4
      · rw [z4]; simp only [upd, ne, if_false]; exact y5
    have hne : ∀ i, i < k → T' i ≠ T k := by
      intro i hi e
      obtain ⟨j, hj, ej⟩ := h5 i hi
      exact hTn j k hj (by omega) (ej.trans e)
    have hT' : ∀ i, i < k → T' i < (zRL w h g st).length := by
      intro i hi
      obtain ⟨j, hj, ej⟩ := h5 i hi
      rw [← ej]; exact hT j (by omega)
    refine rt_bd1 (c_settle1 (x := T k) (T := T') (ah := ahN (zHd w h g st)) (x2 := 1) (by omega : k ≤ 24) h1 (fun i hi => c_gAhead hs hr (hT' i hi) (fun e => hne i hi e.symm) gk (go i hi))) ?_
    intro l' hl'
    obtain ⟨p', y1, y2, y3, y4, y5⟩ := hl'
    have hah := set_ahead (ahN_sto (zHd w h g st)) y1 h4 hne y5
    refine ih (k + 1) f (insT T' (T k) p') l' _ _ _ _ _ (by omega) (by omega) ⟨LPm_ins h1 (by omega) y1 y2 y3, ?_, ?_, ?_, ?_, ?_⟩ hk
    · intro i hi
      rw [y2 i (by omega)]
      rcases Nat.lt_trichotomy i p' with q | q | q
      · rw [ins_lt q, ins_lt q]; exact go i (by omega)
      · subst q; rw [ins_eq, ins_eq]; exact gk
      · rw [ins_gt q, ins_gt q]; exact go (i - 1) (by omega)
    · intro i hi1 hi2
      rw [y3 i (by omega) (by omega)]
      have ne : l i ≠ l k := fun e => by have := h1.inj (by omega) (by omega) e; omega
      rw [z2 _ ne]
      exact h3 i (by omega) hi2
    · exact ins_sorted h4 hah y4 y1
    · intro i hi
      rcases Nat.lt_trichotomy i p' with q | q | q
      · rw [ins_lt q]; obtain ⟨j, hj, e⟩ := h5 i (by omega); exact ⟨j, by omega, e⟩
      · subst q; rw [ins_eq]; exact ⟨k, by omega, rfl⟩
      · rw [ins_gt q]; obtain ⟨j, hj, e⟩ := h5 (i - 1) (by omega); exact ⟨j, by omega, e⟩
    · intro j hj
      by_cases e : j = k
      · subst e; exact ⟨p', by omega, ins_eq⟩
      · obtain ⟨i, hi, ei⟩ := h6 j (by omega)
        rcases Nat.lt_or_ge i p' with q | q
        · exact ⟨i, by omega, by rw [ins_lt q]; exact ei⟩
        · exact ⟨i + 1, by omega, by rw [ins_gt (by omega : p' < i + 1)]; exact ei⟩
