/-! misses of a finding -/
theorem mx0 {m : Nat} (h : m < 2147483648) : (if (0 : Int32) < nI m then nI m else 0) = nI m := by
  by_cases e : 0 < m
  · rw [if_pos (by rw [show (0 : Int32) = nI 0 from rfl]; exact (by rw [n_lt (by omega) (by omega)]; omega))]
  · rw [show m = 0 by omega]; rfl
theorem ms_s {A : Nat → Prop} {m : Nat → Nat} (n : Nat) : fb_sm (msS A m) (n + 1) = fb_sm (msS A m) n + msS A m n := rfl
theorem ms_t {A : Nat → Prop} {m : Nat → Nat} {n : Nat} (h : A n) : msS A m n = m n := by
  have e : msS A m n = if dB A n then m n else 0 := rfl
  rw [e, dB_t.mpr h, if_pos rfl]
theorem ms_f {A : Nat → Prop} {m : Nat → Nat} {n : Nat} (h : ¬ A n) : msS A m n = 0 := by
  have e : msS A m n = if dB A n then m n else 0 := rfl
  rw [e, if_neg (fun z => h (dB_t.mp z))]
theorem c_mt13 {w h v ob y : Nat} {g : Nat → Nat} {of : Int} {A : Nat → Prop} {cg fx fy fo : Nat → Int32} {cr : Nat → Nat → Int32} {kk : _} {P : _} (hw : w ≤ 16) (hh : h ≤ 16) (hv : v < 496) (hG : RepG cg g) (hg : ∀ q, q < 256 → g q ≤ 99) (hx : fx ob = nI (v % 31) - 15) (hyy : fy ob = nI (v / 31)) (ho : (fo ob).toInt = of) (hof : -99 ≤ of ∧ of ≤ 99) (hA : RB (cr ob) A) (hI : ∀ q, q < 256 → A q → q % 16 < w ∧ q / 16 < h ∧ cpI w h v q) (hy : y < 16) :
    ∀ (d x fuel : Nat), x + d = 16 → d < fuel → (∀ z : Int32, Rt (kk (nI (fb_sm (msS A (mi g v of)) (16 * y + 16))) z) P) → Rt (f_X0_missesTogether_L13 FU (nI y) cg (nI w) (nI h) cr fx fy fo ob kk fuel (nI (fb_sm (msS A (mi g v of)) (16 * y + x))) (nI x)) P := by
  intro d
  induction d with
  | zero =>
    intro x fuel e1 e2 hk
    obtain ⟨f, rfl⟩ : ∃ f, fuel = f + 1 := ⟨fuel - 1, by omega⟩
    have ex : x = 16 := by omega
    subst ex
    rw [f_X0_missesTogether_L13]
    exact rt_t (by rw [show (16 : Int32) = nI 16 from rfl]; exact (by rw [n_le (by omega) (by omega)]; omega)) (hk _)
  | succ d ih =>
    intro x fuel e1 e2 hk
    obtain ⟨f, rfl⟩ : ∃ f, fuel = f + 1 := ⟨fuel - 1, by omega⟩
    have hp : 16 * y + x < 256 := by omega
    have key := ih (x + 1) f (by omega) (by omega) hk
    rw [show 16 * y + (x + 1) = 16 * y + x + 1 by omega, ms_s, ← nI_add] at key
    have cm := c_missOf (FU := FU) hw hh hp hv hG hg hx hyy ho hof
    rw [show (16 * y + x) % 16 = x by omega, show (16 * y + x) / 16 = y by omega] at cm
    rw [f_X0_missesTogether_L13]
    refine rt_f (by rw [show (16 : Int32) = nI 16 from rfl]; exact (by rw [n_le (by omega) (by omega)]; omega)) ?_
    rw [rd_ok (by omega) (by omega)]
    refine rt_jn ?_
    dsimp only
    rw [show nI x + (1 : Int32) = nI (x + 1) from nI_add x 1]
    have hb := hA y hy x (by omega)
    refine rt_if (fun c => ?_) (fun c => ?_)
    · rw [b_tst (by omega)] at c
      have hn : ¬ A (16 * y + x) := fun z => by
        have := hb.mpr ⟨by omega, z⟩
        rw [c] at this
        exact absurd this (by decide)
      rw [ms_f hn] at key
      exact key
    · rw [b_tst (by omega)] at c
      have ha : A (16 * y + x) := (hb.mp (by cases q : bt (cr ob y) x <;> first | rfl | exact absurd q c)).2
      have i1 := hI _ hp ha
      rw [show (16 * y + x) % 16 = x by omega, show (16 * y + x) / 16 = y by omega] at i1
      have b1 := mi_198 (hg _ (cpP_256 hw hh i1.2.2)) (hg _ hp) hof
      rw [cm.1 i1, bd1_s, mx0 (by omega)]
      rw [ms_t ha] at key
      exact key
theorem c_misses {w h v ob : Nat} {g : Nat → Nat} {of : Int} {A : Nat → Prop} {cg fx fy fo : Nat → Int32} {cr : Nat → Nat → Int32} (hw : w ≤ 16) (hh : h ≤ 16) (hv : v < 496) (hG : RepG cg g) (hg : ∀ q, q < 256 → g q ≤ 99) (hx : fx ob = nI (v % 31) - 15) (hyy : fy ob = nI (v / 31)) (ho : (fo ob).toInt = of) (hof : -99 ≤ of ∧ of ≤ 99) (hA : RB (cr ob) A) (hI : ∀ q, q < 256 → A q → q % 16 < w ∧ q / 16 < h ∧ cpI w h v q) :
    f_X0_missesTogether FU cg (nI w) (nI h) cr fx fy fo ob = some (nI (fb_sm (msS A (mi g v of)) 256)) := by
  have go : ∀ (d y fuel : Nat), y + d = 16 → d < fuel → Rt (f_X0_missesTogether_L4 FU cg (nI w) (nI h) cr fx fy fo ob (fun (x2_1 : Int32) (x3_2 : Int32) => some x2_1) fuel (nI (fb_sm (msS A (mi g v of)) (16 * y))) (nI y)) (fun q => q = nI (fb_sm (msS A (mi g v of)) 256)) := by
    intro d
    induction d with
    | zero =>
      intro y fuel e1 e2
      obtain ⟨f, rfl⟩ : ∃ f, fuel = f + 1 := ⟨fuel - 1, by omega⟩
      have ey : y = 16 := by omega
      subst ey
      rw [f_X0_missesTogether_L4]
      exact rt_t (by rw [show (16 : Int32) = nI 16 from rfl]; exact (by rw [n_le (by omega) (by omega)]; omega)) (rt_some rfl)
    | succ d ih =>
      intro y fuel e1 e2
      obtain ⟨f, rfl⟩ : ∃ f, fuel = f + 1 := ⟨fuel - 1, by omega⟩
      rw [f_X0_missesTogether_L4]
      refine rt_f (by rw [show (16 : Int32) = nI 16 from rfl]; exact (by rw [n_le (by omega) (by omega)]; omega)) ?_
      refine c_mt13 hw hh hv hG hg hx hyy ho hof hA hI (by omega : y < 16) 16 0 FU (by omega) (by unfold FU; omega) ?_
      intro z
      rw [nI_1]
      exact ih (y + 1) f (by omega) (by omega)
  unfold f_X0_missesTogether
  obtain ⟨q, e, rfl⟩ := go 16 0 FU (by omega) (by unfold FU; omega)
  exact e
/-! the reference measures -/
noncomputable def rnL (A : Nat → Prop) (f : Nat → Nat) : Nat → Nat
  | 0 => 16
  | n + 1 => if dB A n then min (rnL A f n) (f n) else rnL A f n
noncomputable def rnG (A : Nat → Prop) (f : Nat → Nat) : Nat → Nat
  | 0 => 0
  | n + 1 => if dB A n then max (rnG A f n) (f n + 1) else rnG A f n
theorem rnL_s (A : Nat → Prop) (f : Nat → Nat) (n : Nat) : rnL A f (n + 1) = if dB A n then min (rnL A f n) (f n) else rnL A f n := rfl
theorem rnG_s (A : Nat → Prop) (f : Nat → Nat) (n : Nat) : rnG A f (n + 1) = if dB A n then max (rnG A f n) (f n + 1) else rnG A f n := rfl
theorem rnL_16 (A : Nat → Prop) (f : Nat → Nat) : ∀ n, rnL A f n ≤ 16
  | 0 => Nat.le_refl _
  | n + 1 => by
    have := rnL_16 A f n
    rw [rnL_s]
    split <;> omega
theorem rnG_16 {A : Nat → Prop} {f : Nat → Nat} (hf : ∀ p, p < 256 → f p < 16) : ∀ n, n ≤ 256 → rnG A f n ≤ 16
  | 0, _ => Nat.zero_le _
  | n + 1, h => by
    have := rnG_16 (A := A) hf n (by omega)
    have := hf n (by omega)
    rw [rnG_s]
    split <;> omega
theorem rnL_p {A : Nat → Prop} {f : Nat → Nat} : ∀ n, (∀ p, p < n → A p → rnL A f n ≤ f p) ∧ (rnL A f n = 16 ∨ ∃ p, p < n ∧ A p ∧ f p = rnL A f n)
  | 0 => ⟨fun p hp => by omega, Or.inl rfl⟩
  | n + 1 => by
    obtain ⟨h1, h2⟩ := rnL_p (A := A) (f := f) n
    by_cases e : A n
    · have es : rnL A f (n + 1) = min (rnL A f n) (f n) := by rw [rnL_s, dB_t.mpr e, if_pos rfl]
      rw [es]
      refine ⟨fun p hp ha => ?_, ?_⟩
      · by_cases ep : p = n
        · subst ep; omega
        · have := h1 p (by omega) ha; omega
      · rcases Nat.le_total (rnL A f n) (f n) with z | z
        · rw [show min (rnL A f n) (f n) = rnL A f n by omega]
          rcases h2 with y | ⟨p, y1, y2, y3⟩
          · exact Or.inl y
          · exact Or.inr ⟨p, by omega, y2, y3⟩
        · rw [show min (rnL A f n) (f n) = f n by omega]
          exact Or.inr ⟨n, by omega, e, rfl⟩
    · have es : rnL A f (n + 1) = rnL A f n := by rw [rnL_s, if_neg (fun z => e (dB_t.mp z))]
      rw [es]
      refine ⟨fun p hp ha => ?_, ?_⟩
      · by_cases ep : p = n
        · subst ep; exact absurd ha e
        · exact h1 p (by omega) ha
      · rcases h2 with y | ⟨p, y1, y2, y3⟩
        · exact Or.inl y
        · exact Or.inr ⟨p, by omega, y2, y3⟩
theorem rnG_p {A : Nat → Prop} {f : Nat → Nat} : ∀ n, (∀ p, p < n → A p → f p + 1 ≤ rnG A f n) ∧ (rnG A f n = 0 ∨ ∃ p, p < n ∧ A p ∧ f p + 1 = rnG A f n)
  | 0 => ⟨fun p hp => by omega, Or.inl rfl⟩
  | n + 1 => by
    obtain ⟨h1, h2⟩ := rnG_p (A := A) (f := f) n
    by_cases e : A n
    · have es : rnG A f (n + 1) = max (rnG A f n) (f n + 1) := by rw [rnG_s, dB_t.mpr e, if_pos rfl]
      rw [es]
      refine ⟨fun p hp ha => ?_, ?_⟩
      · by_cases ep : p = n
        · subst ep; omega
        · have := h1 p (by omega) ha; omega
      · rcases Nat.le_total (f n + 1) (rnG A f n) with z | z
        · rw [show max (rnG A f n) (f n + 1) = rnG A f n by omega]
          rcases h2 with y | ⟨p, y1, y2, y3⟩
          · exact Or.inl y
          · exact Or.inr ⟨p, by omega, y2, y3⟩
        · rw [show max (rnG A f n) (f n + 1) = f n + 1 by omega]
          exact Or.inr ⟨n, by omega, e, rfl⟩
    · have es : rnG A f (n + 1) = rnG A f n := by rw [rnG_s, if_neg (fun z => e (dB_t.mp z))]
      rw [es]
      refine ⟨fun p hp ha => ?_, ?_⟩
      · by_cases ep : p = n
        · subst ep; exact absurd ha e
        · exact h1 p (by omega) ha
      · rcases h2 with y | ⟨p, y1, y2, y3⟩
        · exact Or.inl y
        · exact Or.inr ⟨p, by omega, y2, y3⟩
theorem rnL_l {A : Nat → Prop} {f : Nat → Nat} (hf : ∀ p, p < 256 → f p < 16) (hne : ∃ p, p < 256 ∧ A p) : Lst A f (rnL A f 256) := by
  obtain ⟨h1, h2⟩ := rnL_p (A := A) (f := f) 256
  refine ⟨?_, h1⟩
  rcases h2 with y | y
  · obtain ⟨p, z1, z2⟩ := hne
    have := h1 p z1 z2
    have := hf p z1
    omega
  · exact y
theorem rnG_g {A : Nat → Prop} {f : Nat → Nat} (hne : ∃ p, p < 256 ∧ A p) : Gst A f (rnG A f 256 - 1) ∧ 1 ≤ rnG A f 256 := by
  obtain ⟨h1, h2⟩ := rnG_p (A := A) (f := f) 256
  have hp : 1 ≤ rnG A f 256 := by
    obtain ⟨p, z1, z2⟩ := hne
    have := h1 p z1 z2
    omega
  refine ⟨⟨?_, fun p hp ha => by have := h1 p hp ha; omega⟩, hp⟩
  rcases h2 with y | ⟨p, y1, y2, y3⟩
  · omega
  · exact ⟨p, y1, y2, by omega⟩
theorem gcmp : ∀ c, c < 16 → ∀ R, R < 17 → (nI c ≤ nI R - 1 ↔ c + 1 ≤ R) ∧ nI c = nI (c + 1) - 1 := by decide +kernel
theorem m_me29 {w h j r : Nat} {g st : Nat → Nat} {A : Nat → Prop} {cg cx cy crs crof cof c : Nat → Int32} {kk : _} {P : _} (hw : w ≤ 16) (hh : h ≤ 16) (hw1 : 1 ≤ w) (hh1 : 1 ≤ h) (hG : RepG cg g) (hg : ∀ q, q < 256 → g q ≤ 99) (hm : MF w h g st cx cy crs crof j r) (ho : (cof j).toInt = zOf w h g st r) (hA : MIn c j A) (hI : ∀ q, q < 256 → A q → cpI w h (zv w h g st r) q) :
    ∀ (d p fuel : Nat), p + d = 256 → d < fuel → (∀ z : Int32, Rt (kk z (nI (rnL A pX 256)) (nI (rnG A pX 256) - 1) (nI (rnL A pY 256)) (nI (rnG A pY 256) - 1) (nI (fb_sm (msS A (mi g (zv w h g st r) (zOf w h g st r))) 256))) P) → Rt (f_X8_measures_L29 FU (nI j) (nI w) (nI h) cg cx cy crs crof cof c kk fuel (nI p) (nI (rnL A pX p)) (nI (rnG A pX p) - 1) (nI (rnL A pY p)) (nI (rnG A pY p) - 1) (nI (fb_sm (msS A (mi g (zv w h g st r) (zOf w h g st r))) p))) P := by
  have hj := hm.1
  intro d
  induction d with
  | zero =>
    intro p fuel e1 e2 hk
    obtain ⟨f, rfl⟩ : ∃ f, fuel = f + 1 := ⟨fuel - 1, by omega⟩
    have ep : p = 256 := by omega
    subst ep
    rw [f_X8_measures_L29]
    exact rt_t (by rw [show (256 : Int32) = nI 256 from rfl]; exact (by rw [n_le (by omega) (by omega)]; omega)) (hk _)
  | succ d ih =>
    intro p fuel e1 e2 hk
    obtain ⟨f, rfl⟩ : ∃ f, fuel = f + 1 := ⟨fuel - 1, by omega⟩
    have hp : p < 256 := by omega
    have key := ih (p + 1) f (by omega) (by omega) hk
    rw [rnL_s, rnL_s, rnG_s, rnG_s, ms_s] at key
    rw [f_X8_measures_L29]
    refine rt_f (by rw [show (256 : Int32) = nI 256 from rfl]; exact (by rw [n_le (by omega) (by omega)]; omega)) ?_
    rw [show (256 : Int32) = nI 256 from rfl, pk_mul, nI_add, rd_ok (by omega) (by omega), nI_1]
    refine rt_if (fun c1 => ?_) (fun c1 => ?_)
    · have hn : ¬ A p := (min_0 hA hp).mp c1
      have hd : ¬ dB A p = true := fun z => hn (dB_t.mp z)
      rw [if_neg hd, if_neg hd, if_neg hd, if_neg hd, ms_f hn, Nat.add_zero] at key
      exact key
    · have ha : A p := Classical.byContradiction (fun z => c1 ((min_0 hA hp).mpr z))
      have hd : dB A p = true := dB_t.mpr ha
      rw [if_pos hd, if_pos hd, if_pos hd, if_pos hd, ms_t ha] at key
      rw [md16 (by omega), dv16 (by omega)]
      have l1 := rnL_16 A pX p
      have l2 := rnL_16 A pY p
      have g1 := rnG_16 (A := A) (f := pX) (fun p _ => by unfold pX; omega) p (by omega)
      have g2 := rnG_16 (A := A) (f := pY) (fun p _ => by unfold pY; omega) p (by omega)
      have fx : p % 16 = pX p := rfl
      have fy : p / 16 = pY p := rfl
      have bx : pX p < 16 := by unfold pX; omega
      have bby : pY p < 16 := by unfold pY; omega
      rw [fx, fy]
      have q1 := gcmp (pX p) bx (rnG A pX p) (by omega)
      have q2 := gcmp (pY p) bby (rnG A pY p) (by omega)
      have last : ∀ (a b u v : Int32), a = nI (min (rnL A pX p) (pX p)) → b = nI (max (rnG A pX p) (pX p + 1)) - 1 → u = nI (min (rnL A pY p) (pY p)) → v = nI (max (rnG A pY p) (pY p + 1)) - 1 → Rt (bd1 (f_X8_missOf FU (nI w) (nI h) cg cx cy crs crof cof (nI j) (nI p)) (fun r_23 => f_X8_measures_L29 FU (nI j) (nI w) (nI h) cg cx cy crs crof cof c kk f (nI (p + 1)) a b u v (nI (fb_sm (msS A (mi g (zv w h g st r) (zOf w h g st r))) p) + r_23))) P := by
        intro a b u v h1 h2 h3 h4
        subst h1 h2 h3 h4
        rw [m_missOf hw hh hw1 hh1 hG hg hm ho hp (hI p hp ha), bd1_s, nI_add]
        exact key
      have s4 : ∀ (a b u : Int32), a = nI (min (rnL A pX p) (pX p)) → b = nI (max (rnG A pX p) (pX p + 1)) - 1 → u = nI (min (rnL A pY p) (pY p)) → Rt (jn (fun (t_20 : Int32) => bd1 (f_X8_missOf FU (nI w) (nI h) cg cx cy crs crof cof (nI j) (nI p)) (fun r_23 => f_X8_measures_L29 FU (nI j) (nI w) (nI h) cg cx cy crs crof cof c kk f (nI (p + 1)) a b u t_20 (nI (fb_sm (msS A (mi g (zv w h g st r) (zOf w h g st r))) p) + r_23))) (fun j_21 => if nI (pY p) ≤ nI (rnG A pY p) - 1 then j_21 (nI (rnG A pY p) - 1) else j_21 (nI (pY p)))) P := by
        intro a b u h1 h2 h3
        refine rt_jn ?_
        refine rt_if (fun z => ?_) (fun z => ?_)
        · rw [q2.1] at z
          exact last _ _ _ _ h1 h2 h3 (by rw [show max (rnG A pY p) (pY p + 1) = rnG A pY p by omega])
        · rw [q2.1] at z
          exact last _ _ _ _ h1 h2 h3 (by rw [show max (rnG A pY p) (pY p + 1) = pY p + 1 by omega]; exact q2.2)
      refine rt_jn ?_
      refine rt_if (fun z => ?_) (fun z => ?_)
      all_goals
        rw [n_le (by omega) (by omega)] at z
        refine rt_jn ?_
        refine rt_if (fun z2 => ?_) (fun z2 => ?_)
        all_goals
          rw [q1.1] at z2
          refine rt_jn ?_
          refine rt_if (fun z3 => ?_) (fun z3 => ?_)
          all_goals
            rw [n_le (by omega) (by omega)] at z3
            refine s4 _ _ _ ?_ ?_ ?_
            · first
                | rw [show min (rnL A pX p) (pX p) = rnL A pX p by omega]
                | rw [show min (rnL A pX p) (pX p) = pX p by omega]
            · first
                | rw [show max (rnG A pX p) (pX p + 1) = rnG A pX p by omega]
                | (rw [show max (rnG A pX p) (pX p + 1) = pX p + 1 by omega]; exact q1.2)
            · first
                | rw [show min (rnL A pY p) (pY p) = rnL A pY p by omega]
                | rw [show min (rnL A pY p) (pY p) = pY p by omega]
theorem m_measures {w h j r : Nat} {g st : Nat → Nat} {A : Nat → Prop} {cg cx cy crs crof cof c : Nat → Int32} {a1 a2 a3 a4 a5 : Int32} (hw : w ≤ 16) (hh : h ≤ 16) (hw1 : 1 ≤ w) (hh1 : 1 ≤ h) (hG : RepG cg g) (hg : ∀ q, q < 256 → g q ≤ 99) (hm : MF w h g st cx cy crs crof j r) (ho : (cof j).toInt = zOf w h g st r) (hA : MIn c j A) (hI : ∀ q, q < 256 → A q → cpI w h (zv w h g st r) q) :
    f_X8_measures FU (nI w) (nI h) cg cx cy crs crof cof c a1 a2 a3 a4 a5 (nI j) = some (nI (rnL A pX 256), nI (rnG A pX 256) - 1, nI (rnL A pY 256), nI (rnG A pY 256) - 1, nI (fb_sm (msS A (mi g (zv w h g st r) (zOf w h g st r))) 256)) := by
  have : Rt (f_X8_measures FU (nI w) (nI h) cg cx cy crs crof cof c a1 a2 a3 a4 a5 (nI j)) (fun q => q = (nI (rnL A pX 256), nI (rnG A pX 256) - 1, nI (rnL A pY 256), nI (rnG A pY 256) - 1, nI (fb_sm (msS A (mi g (zv w h g st r) (zOf w h g st r))) 256))) := by
    unfold f_X8_measures
    exact m_me29 hw hh hw1 hh1 hG hg hm ho hA hI 256 0 FU (by omega) (by unfold FU; omega) (fun z => rt_some rfl)
  obtain ⟨q, e, rfl⟩ := this
  exact e
