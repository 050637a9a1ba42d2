/-! the regions in their list -/
def lexP (a b : Nat × Nat) : Prop := a.1 < b.1 ∨ (a.1 = b.1 ∧ a.2 < b.2)
theorem rgI_pw {W : Nat → Nat → Prop} {k : Nat} : ∀ (n : Nat), (rgI W k n).Pairwise lexP
  | 0 => List.Pairwise.nil
  | n + 1 => by
    rw [rgI_s, List.pairwise_append]
    refine ⟨rgI_pw n, ?_, ?_⟩
    · split <;> simp
    · intro a ha b hb
      have h1 := (rgI_mem n).mp ha
      by_cases c : dB (rgS (W k) n) n = true
      · rw [if_pos c, List.mem_singleton] at hb
        subst hb
        exact Or.inr ⟨h1.1, h1.2.1⟩
      · rw [if_neg c] at hb; simp at hb
theorem rgO_pw {W : Nat → Nat → Prop} : ∀ (n : Nat), (rgO W n).Pairwise lexP
  | 0 => List.Pairwise.nil
  | n + 1 => by
    rw [rgO_s, List.pairwise_append]
    refine ⟨rgO_pw n, rgI_pw 256, ?_⟩
    intro a ha b hb
    have h1 := ((rgO_mem n).mp ha).1
    have h2 := ((rgI_mem 256).mp hb).1
    exact Or.inl (by omega)
theorem pw_get {α : Type} {z : α} {R : α → α → Prop} {L : List α} (h : L.Pairwise R) {i j : Nat} (hij : i < j) (hj : j < L.length) : R (L.getD i z) (L.getD j z) := by
  rw [List.pairwise_iff_getElem] at h
  have := h i j (by omega) hj hij
  rw [List.getD_eq_getElem?_getD, List.getD_eq_getElem?_getD, List.getElem?_eq_getElem hj, List.getElem?_eq_getElem (by omega : i < L.length)]
  exact this
theorem pre_get {α : Type} {z : α} {L M : List α} (h : ∃ t, L ++ t = M) {i : Nat} (hi : i < L.length) : L.getD i z = M.getD i z := by
  obtain ⟨t, rfl⟩ := h
  rw [List.getD_eq_getElem?_getD, List.getD_eq_getElem?_getD, List.getElem?_append_left hi]
theorem rgI_pre {W : Nat → Nat → Prop} {k a : Nat} : ∀ (d : Nat), ∃ t, rgI W k a ++ t = rgI W k (a + d)
  | 0 => ⟨[], by simp⟩
  | d + 1 => by
    obtain ⟨t, ht⟩ := rgI_pre (W := W) (k := k) (a := a) d
    exact ⟨t ++ _, by rw [← List.append_assoc, ht]; rfl⟩
theorem rgO_pre {W : Nat → Nat → Prop} {a : Nat} : ∀ (d : Nat), ∃ t, rgO W a ++ t = rgO W (a + d)
  | 0 => ⟨[], by simp⟩
  | d + 1 => by
    obtain ⟨t, ht⟩ := rgO_pre (W := W) (a := a) d
    exact ⟨t ++ _, by rw [← List.append_assoc, ht]; rfl⟩
theorem rg_pre {W : Nat → Nat → Prop} {K k p : Nat} (hk : k < K) (hp : p ≤ 256) : ∃ t, (rgO W k ++ rgI W k p) ++ t = rgO W K := by
  obtain ⟨t1, h1⟩ := rgI_pre (W := W) (k := k) (a := p) (256 - p)
  obtain ⟨t2, h2⟩ := rgO_pre (W := W) (a := k + 1) (K - (k + 1))
  rw [show p + (256 - p) = 256 by omega] at h1
  rw [show k + 1 + (K - (k + 1)) = K by omega, rgO_s, ← h1] at h2
  exact ⟨t1 ++ t2, by rw [← h2]; simp⟩
/-! regions in order -/
noncomputable def zE2 (w h : Nat) (g st : Nat → Nat) (r : Nat) : Nat × Nat := (zRL w h g st).getD r (0, 0)
def zRA (w h : Nat) (g st : Nat → Nat) (r : Nat) : Nat → Prop := rgA (zW w h g st) (zE2 w h g st r)
noncomputable def zSz (w h : Nat) (g st : Nat → Nat) (r : Nat) : Nat := cnt (zRA w h g st r)
def ahN (S : Nat → Nat) (r r' : Nat) : Prop := S r' < S r ∨ (S r = S r' ∧ r < r')
theorem ahN_sto (S : Nat → Nat) : STO (ahN S) := by
  refine ⟨fun a => ?_, fun a b c => ?_, fun a b => ?_⟩ <;> unfold ahN <;> omega
theorem zE2_lex {w h : Nat} {g st : Nat → Nat} {r r' : Nat} (hr : r < r') (hr' : r' < (zRL w h g st).length) : lexP (zE2 w h g st r) (zE2 w h g st r') := pw_get (rgO_pw _) hr hr'
theorem zE2_mem {w h : Nat} {g st : Nat → Nat} {r : Nat} (hr : r < (zRL w h g st).length) : (zE2 w h g st r).1 < zKn w h g st ∧ (zE2 w h g st r).2 < 256 ∧ rgS (zW w h g st (zE2 w h g st r).1) (zE2 w h g st r).2 (zE2 w h g st r).2 := (rgO_mem _).mp (getD_mem hr)
/-- an object holds what is told of a region, but for its rows -/
def FH (w h : Nat) (g st : Nat → Nat) (fs fx fy fp fn : Nat → Int32) (r ob : Nat) : Prop :=
  fs ob = nI (zE2 w h g st r).1 ∧ fx ob = nI (zT w h g st (zE2 w h g st r).1 % 31) - 15 ∧ fy ob = nI (zT w h g st (zE2 w h g st r).1 / 31) ∧ fp ob = nI (zE2 w h g st r).2 ∧ fn ob = nI (zSz w h g st r)
theorem c_rAhead {w h : Nat} {g st : Nat → Nat} {fs fx fy fp fn fc : Nat → Int32} {r r' o o' : Nat} (hs : SHc w h g st) (hr : r < (zRL w h g st).length) (hr' : r' < (zRL w h g st).length) (hne : r ≠ r') (h1 : FH w h g st fs fx fy fp fn r o) (h2 : FH w h g st fs fx fy fp fn r' o') :
    Rt (f_X0_isAhead FU fs fp fn fc o o' (nI 0)) (fun v => v = 0 ↔ ¬ ahN (zSz w h g st) r r') := by
  have hK := hs.K8
  have m1 := zE2_mem hr
  have m2 := zE2_mem hr'
  have s1 : zSz w h g st r ≤ 256 := cnt_256 _
  have s2 : zSz w h g st r' ≤ 256 := cnt_256 _
  have no : ∀ q : Prop, q → (((0 : Int32) = 0) ↔ q) := fun q hq => ⟨fun _ => hq, fun _ => rfl⟩
  have yes : ∀ q : Prop, ¬ q → (((1 : Int32) = 0) ↔ q) := fun q hq => ⟨fun z => absurd z (by decide), fun z => absurd z hq⟩
  have lx : r < r' ↔ lexP (zE2 w h g st r) (zE2 w h g st r') := by
    constructor
    · intro z; exact zE2_lex z hr'
    · intro z
      rcases Nat.lt_or_ge r r' with y | y
      · exact y
      · have := zE2_lex (by omega : r' < r) hr
        unfold lexP at z this
        omega
  unfold f_X0_isAhead
  refine rt_jn ?_
  dsimp only
  refine rt_t rfl (rt_jn ?_)
  dsimp only
  refine rt_t rfl ?_
  rw [h1.1, h1.2.2.2.1, h1.2.2.2.2, h2.1, h2.2.2.2.1, h2.2.2.2.2]
  unfold lexP at lx
  refine rt_if (fun c => ?_) (fun c => ?_)
  · rw [n_inj (by omega) (by omega)] at c
    refine rt_if (fun c2 => ?_) (fun c2 => ?_)
    · rw [n_inj (by omega) (by omega)] at c2
      refine rt_if (fun c3 => ?_) (fun c3 => ?_)
      · rw [n_le (by omega) (by omega)] at c3
        exact rt_some (no _ (by unfold ahN; omega))
      · rw [n_le (by omega) (by omega)] at c3
        exact rt_some (yes _ (by unfold ahN; omega))
    · rw [n_inj (by omega) (by omega)] at c2
      refine rt_if (fun c3 => ?_) (fun c3 => ?_)
      · rw [n_le (by omega) (by omega)] at c3
        exact rt_some (no _ (by unfold ahN; omega))
      · rw [n_le (by omega) (by omega)] at c3
        exact rt_some (yes _ (by unfold ahN; omega))
  · rw [n_inj (by omega) (by omega)] at c
    refine rt_if (fun c3 => ?_) (fun c3 => ?_)
    · rw [n_le (by omega) (by omega)] at c3
      exact rt_some (no _ (by unfold ahN; omega))
    · rw [n_le (by omega) (by omega)] at c3
      exact rt_some (yes _ (by unfold ahN; omega))
/-- the class's first regions, of n -/
def CG (w h : Nat) (g st : Nat → Nat) (n K : Nat) (T : Nat → Nat) (l : Nat → Nat) (cr : Nat → Nat → Int32) (fs fx fy fp fn : Nat → Int32) : Prop :=
  Top 24 (ahN (zSz w h g st)) (fun _ => True) n K T ∧ LPm l ∧ ∀ i, i < K → RB (cr (l i)) (zRA w h g st (T i)) ∧ FH w h g st fs fx fy fp fn (T i) (l i)
theorem c_addRegion {w h k p n K : Nat} {g st T l : Nat → Nat} {cl cr : Nat → Nat → Int32} {fs fx fy fp fn fc crg : Nat → Int32} (hs : SHc w h g st) (hk : k < zKn w h g st) (hp : p < 256) (hn : n < (zRL w h g st).length) (he : zE2 w h g st n = (k, p)) (hG : CG w h g st n K T l cr fs fx fy fp fn) (hL : RB (cl k) (rgS (zW w h g st k) p)) :
    Rt (f_X1_addRegion FU l (nI K) crg cl cr fs fx fy fp fn fc (nI k) (nI (zT w h g st k)) (nI p)) (fun q => ∃ K' T', q.2.1 = nI K' ∧ CG w h g st (n + 1) K' T' q.1 q.2.2.2.2.1 q.2.2.2.2.2.1 q.2.2.2.2.2.2.1 q.2.2.2.2.2.2.2.1 q.2.2.2.2.2.2.2.2.1 q.2.2.2.2.2.2.2.2.2 ∧ q.2.2.1 = upd crg k (crg k + 1) ∧ RB (q.2.2.2.1 k) (fun x => rgS (zW w h g st k) p x ∧ ¬ Cl (rgS (zW w h g st k) p) (fun x => x = p) x) ∧ (∀ k', k' ≠ k → q.2.2.2.1 k' = cl k')) := by
  have hK8 := hs.K8
  obtain ⟨ht, hl, hf⟩ := hG
  have hK := ht.1
  unfold f_X1_addRegion
  rw [rdn_ok (by omega) (by omega), lt25_ok (hl.1 K (by omega)), rdn_ok (by omega) (by omega), lt25_ok (by omega)]
  refine rt_bd7 (c_begin (ob := l K) hp (hs.T hk) hL) ?_
  intro a1 a2 a3 a4 a5 a6 a7 hz
  obtain ⟨z1, z2, z3, z4, z5, z6, z7, z8, z9⟩ := hz
  dsimp only at z1 z2 z3 z4 z5 z6 z7 z8 z9
  have eA : zRA w h g st n = Cl (rgS (zW w h g st k) p) (fun x => x = p) := by unfold zRA; rw [he]; rfl
  have hob : FH w h g st a3 a4 a5 a6 a7 n (l K) := by
    unfold FH
    rw [he, z5, z6, z7, z8, z9]
    refine ⟨by simp [upd], by simp [upd], by simp [upd], by simp [upd], ?_⟩
    simp only [upd, if_true]
    unfold zSz
    rw [eA]
  have hot : ∀ i, i < K → RB (a2 (l i)) (zRA w h g st (T i)) ∧ FH w h g st a3 a4 a5 a6 a7 (T i) (l i) := by
    intro i hi
    have ne : l i ≠ l K := fun e => by have := hl.inj (by omega) (by omega) e; omega
    obtain ⟨f1, f2, f3, f4, f5, f6⟩ := hf i hi
    refine ⟨by rw [z4 _ ne]; exact f1, ?_⟩
    unfold FH
    rw [z5, z6, z7, z8, z9]
    simp only [upd, ne, if_false]
    exact ⟨f2, f3, f4, f5, f6⟩
  have hTn : ∀ i, i < K → T i < n := fun i hi => (ht.2.1 i hi).1
  refine rt_bd1 (c_settle1 (x := n) (T := T) (ah := ahN (zSz w h g st)) (x2 := 0) hK hl (fun i hi => c_rAhead hs hn (by have := hTn i hi; omega) (by have := hTn i hi; omega) hob (hot i hi).2)) ?_
  intro l' hl'
  obtain ⟨p', y1, y2, y3, y4, y5⟩ := hl'
  rw [rd_ok (by omega) (by omega), wr_ok (by omega) (by omega), nI_1]
  rw [show (if 24 < nI (K + 1) then 24 else nI (K + 1)) = nI (min (K + 1) 24) from if_min (a := 24) (by omega) (by omega)]
  refine rt_some ⟨min (K + 1) 24, insT T n p', rfl, ⟨?_, LPm_ins hl (by omega) y1 y2 y3, ?_⟩, rfl, z1, z2⟩
  · exact top_ins (ahN_sto _) ht trivial y1 (set_ahead (ahN_sto _) y1 ht.2.2.1 (fun j hj => by have := hTn j hj; omega) y5) y4
  · intro i hi
    show RB (a2 (l' i)) _ ∧ FH w h g st a3 a4 a5 a6 a7 _ (l' i)
    rw [y2 i (by omega)]
    rcases Nat.lt_trichotomy i p' with q | q | q
    · rw [ins_lt q, ins_lt q]; exact hot i (by omega)
    · subst q; rw [ins_eq, ins_eq]; exact ⟨by rw [eA]; exact z3, hob⟩
    · rw [ins_gt q, ins_gt q]; exact hot (i - 1) (by omega)
/-- how far the class has come -/
def CL (w h : Nat) (g st : Nat → Nat) (k p n : Nat) (l : Nat → Nat) (fcn : Int32) (crg : Nat → Int32) (cl cr : Nat → Nat → Int32) (fs fx fy fp fn : Nat → Int32) : Prop :=
  (∃ K T, fcn = nI K ∧ CG w h g st n K T l cr fs fx fy fp fn) ∧ (∀ k', k' < k → crg k' = nI (rgI (zW w h g st) k' 256).length) ∧ crg k = nI (rgI (zW w h g st) k p).length ∧ (∀ k', k < k' → k' < 8 → crg k' = 0) ∧
  RB (cl k) (rgS (zW w h g st k) p) ∧ (∀ k', k < k' → k' < zKn w h g st → RB (cl k') (zW w h g st k'))
theorem c_ga109 {w h k : Nat} {g st : Nat → Nat} {cw fc : Nat → Int32} {kk : _} {P : _} (hs : SHc w h g st) (hk : k < zKn w h g st) (hcw : ∀ j, j < zKn w h g st → cw j = nI (zT w h g st j)) :
    ∀ (d p fuel : Nat) (l : Nat → Nat) (fcn : Int32) (crg : Nat → Int32) (cl cr : Nat → Nat → Int32) (fs fx fy fp fn : Nat → Int32), p + d = 256 → d < fuel → CL w h g st k p (rgO (zW w h g st) k ++ rgI (zW w h g st) k p).length l fcn crg cl cr fs fx fy fp fn →
      (∀ (z : Int32) (l : Nat → Nat) (fcn : Int32) (crg : Nat → Int32) (cl cr : Nat → Nat → Int32) (fs fx fy fp fn : Nat → Int32), CL w h g st k 256 (rgO (zW w h g st) (k + 1)).length l fcn crg cl cr fs fx fy fp fn → Rt (kk z l fcn crg cl cr fs fx fy fp fn) P) →
      Rt (f_X1_gather_L109 FU (nI k) cw fc kk fuel (nI p) l fcn crg cl cr fs fx fy fp fn) P := by
  have hK8 := hs.K8
  intro d
  induction d with
  | zero =>
    intro p fuel l fcn crg cl cr fs fx fy fp fn e1 e2 hC hkk
    obtain ⟨f, rfl⟩ : ∃ f, fuel = f + 1 := ⟨fuel - 1, by omega⟩
    have ep : p = 256 := by omega
    subst ep
    rw [f_X1_gather_L109]
    exact rt_t (by rw [show (256 : Int32) = nI 256 from rfl]; exact (by rw [n_le (by omega) (by omega)]; omega)) (hkk _ _ _ _ _ _ _ _ _ _ _ hC)
  | succ d ih =>
    intro p fuel l fcn crg cl cr fs fx fy fp fn e1 e2 hC hkk
    obtain ⟨f, rfl⟩ : ∃ f, fuel = f + 1 := ⟨fuel - 1, by omega⟩
    have hp : p < 256 := by omega
    obtain ⟨⟨K, T, h1, hG⟩, h2, h3, h4, h5, h6⟩ := hC
    have es := rgI_s (zW w h g st) k p
    have hlen := rg_1024 (W := zW w h g st) (k := k) (p := p + 1) (by omega) (by omega)
    rw [f_X1_gather_L109]
    refine rt_f (by rw [show (256 : Int32) = nI 256 from rfl]; exact (by rw [n_le (by omega) (by omega)]; omega)) ?_
    rw [rdn_ok (by omega) (by omega), lt25_ok (by omega), md16 (by omega), dv16 (by omega), rd_ok (by omega) (by omega), nI_1]
    refine rt_if (fun c => ?_) (fun c => ?_)
    · rw [b_tst (by omega), ← Bool.not_eq_true, rb_at h5 hp] at c
      have hl2 : dB (rgS (zW w h g st k) p) p = false := by
        cases e : dB (rgS (zW w h g st k) p) p
        · rfl
        · exact absurd (dB_t.mp e) c
      rw [hl2] at es
      simp only [Bool.false_eq_true, if_false, List.append_nil] at es
      refine ih (p + 1) f _ _ _ _ _ _ _ _ _ _ (by omega) (by omega) ?_ hkk
      rw [es]
      refine ⟨⟨K, T, h1, hG⟩, h2, ?_, h4, rb_cong h5 (fun q hq => ?_), h6⟩
      · rw [es]; exact h3
      · rw [rgS_s]; exact ⟨fun y => ⟨y, fun z => c z.1⟩, fun y => y.1⟩
    · rw [b_tst (by omega), ← Bool.not_eq_true, rb_at h5 hp] at c
      have hin : rgS (zW w h g st k) p p := Classical.byContradiction c
      rw [dB_t.mpr hin, if_pos rfl] at es
      rw [rd_ok (by omega) (by omega), hcw k hk]
      have hpre : ∃ t, (rgO (zW w h g st) k ++ rgI (zW w h g st) k (p + 1)) ++ t = zRL w h g st := rg_pre hk (by omega)
      have hEn : zE2 w h g st (rgO (zW w h g st) k ++ rgI (zW w h g st) k p).length = (k, p) := by
        unfold zE2
        rw [← pre_get hpre (by rw [es, ← List.append_assoc, List.length_append]; simp), es, ← List.append_assoc, getD_snoc, if_neg (Nat.lt_irrefl _), if_pos rfl]
      have hnl : (rgO (zW w h g st) k ++ rgI (zW w h g st) k p).length < (zRL w h g st).length := by
        obtain ⟨t, ht⟩ := hpre
        have hh2 := congrArg List.length ht
        rw [es] at hh2
        simp only [List.length_append, List.length_cons, List.length_nil] at hh2 ⊢
        omega
      subst h1
      refine rt_bd10 (c_addRegion hs hk hp hnl hEn hG h5) ?_
      intro a1 a2 a3 a4 a5 a6 a7 a8 a9 a10 hz
      obtain ⟨K', T', z1, z2, z3, z4, z5⟩ := hz
      dsimp only at z1 z2 z3 z4 z5
      refine ih (p + 1) f _ _ _ _ _ _ _ _ _ _ (by omega) (by omega) ?_ hkk
      have elen : (rgO (zW w h g st) k ++ rgI (zW w h g st) k (p + 1)).length = (rgO (zW w h g st) k ++ rgI (zW w h g st) k p).length + 1 := by
        rw [es, ← List.append_assoc, List.length_append]; rfl
      rw [elen]
      refine ⟨⟨K', T', z1, z2⟩, ?_, ?_, ?_, ?_, ?_⟩
      · intro k' hk'
        rw [z3]
        simp only [upd, show k' ≠ k by omega, if_false]
        exact h2 k' hk'
      · rw [z3, es, List.length_append]
        simp only [upd, if_true, List.length_singleton]
        rw [h3, nI_1]
      · intro k' hk' hk8
        rw [z3]
        simp only [upd, show k' ≠ k by omega, if_false]
        exact h4 k' hk' hk8
      · refine rb_cong z4 (fun q hq => ?_)
        rw [rgS_s]
        exact ⟨fun y => ⟨y.1, fun z => y.2 z.2⟩, fun y => ⟨y.1, fun z => y.2 ⟨hin, z⟩⟩⟩
      · intro k' hk' hkn
        rw [z5 k' (by omega)]
        exact h6 k' hk' hkn
theorem c_ga99 {w h : Nat} {g st : Nat → Nat} {cw fc : Nat → Int32} {kk : _} {P : _} (hs : SHc w h g st) (hcw : ∀ j, j < zKn w h g st → cw j = nI (zT w h g st j)) :
    ∀ (d k fuel : Nat) (l : Nat → Nat) (fcn : Int32) (crg : Nat → Int32) (cl cr : Nat → Nat → Int32) (fs fx fy fp fn : Nat → Int32), k + d = zKn w h g st → d < fuel →
      ((∃ K T, fcn = nI K ∧ CG w h g st (rgO (zW w h g st) k).length K T l cr fs fx fy fp fn) ∧ (∀ k', k' < k → crg k' = nI (rgI (zW w h g st) k' 256).length) ∧ (∀ k', k ≤ k' → k' < 8 → crg k' = 0) ∧ (∀ k', k ≤ k' → k' < zKn w h g st → RB (cl k') (zW w h g st k'))) →
      (∀ (z : Int32) (l : Nat → Nat) (fcn : Int32) (crg : Nat → Int32) (cl cr : Nat → Nat → Int32) (fs fx fy fp fn : Nat → Int32), (∃ K T, fcn = nI K ∧ CG w h g st (zRL w h g st).length K T l cr fs fx fy fp fn) → (∀ k', k' < zKn w h g st → crg k' = nI (rgI (zW w h g st) k' 256).length) → Rt (kk z l fcn crg cl cr fs fx fy fp fn) P) →
      Rt (f_X1_gather_L99 FU cw (nI (zKn w h g st)) fc kk fuel (nI k) l fcn crg cl cr fs fx fy fp fn) P := by
  have hK8 := hs.K8
  intro d
  induction d with
  | zero =>
    intro k fuel l fcn crg cl cr fs fx fy fp fn e1 e2 hC hkk
    obtain ⟨f, rfl⟩ : ∃ f, fuel = f + 1 := ⟨fuel - 1, by omega⟩
    have ek : k = zKn w h g st := by omega
    subst ek
    rw [f_X1_gather_L99]
    exact rt_t (by rw [n_le (by omega) (by omega)]; omega) (hkk _ _ _ _ _ _ _ _ _ _ _ hC.1 hC.2.1)
  | succ d ih =>
    intro k fuel l fcn crg cl cr fs fx fy fp fn e1 e2 hC hkk
    obtain ⟨f, rfl⟩ : ∃ f, fuel = f + 1 := ⟨fuel - 1, by omega⟩
    obtain ⟨h1, h2, h3, h4⟩ := hC
    rw [f_X1_gather_L99]
    refine rt_f (by rw [n_le (by omega) (by omega)]; omega) ?_
    refine c_ga109 hs (by omega : k < zKn w h g st) hcw 256 0 FU l fcn crg cl cr fs fx fy fp fn (by omega) (by unfold FU; omega) ?_ ?_
    · show CL w h g st k 0 (rgO (zW w h g st) k ++ []).length l fcn crg cl cr fs fx fy fp fn
      rw [List.append_nil]
      exact ⟨h1, h2, h3 k (by omega) (by omega), fun k' z1 z2 => h3 k' (by omega) z2, h4 k (by omega) (by omega), fun k' z1 z2 => h4 k' (by omega) z2⟩
    · intro z l fcn crg cl cr fs fx fy fp fn hz
      obtain ⟨y1, y2, y3, y4, y5, y6⟩ := hz
      rw [nI_1]
      refine ih (k + 1) f l fcn crg cl cr fs fx fy fp fn (by omega) (by omega) ⟨y1, fun k' hk' => ?_, fun k' z1 z2 => y4 k' (by omega) z2, fun k' z1 z2 => y6 k' (by omega) z2⟩ hkk
      by_cases e : k' = k
      · rw [e]; exact y3
      · exact y2 k' (by omega)
theorem c_ga1_7 {kk : _} {P : _} : ∀ (d k fuel : Nat) (crg : Nat → Int32) (cl : Nat → Nat → Int32), k + d = 8 → d < fuel → (∀ k', k' < k → crg k' = 0 ∧ ∀ y, y < 16 → cl k' y = 0) → (∀ (z : Int32) (crg : Nat → Int32) (cl : Nat → Nat → Int32), (∀ k', k' < 8 → crg k' = 0 ∧ ∀ y, y < 16 → cl k' y = 0) → Rt (kk z crg cl) P) → Rt (f_X1_gather_L7 FU kk fuel (nI k) crg cl) P := by
  intro d
  induction d with
  | zero =>
    intro k fuel crg cl e1 e2 hc hk
    obtain ⟨f, rfl⟩ : ∃ f, fuel = f + 1 := ⟨fuel - 1, by omega⟩
    rw [f_X1_gather_L7]
    exact rt_t (by rw [show (8 : Int32) = nI 8 from rfl]; exact (by rw [n_le (by omega) (by omega)]; omega)) (hk _ _ _ (fun j hj => hc j (by omega)))
  | succ d ih =>
    intro k fuel crg cl e1 e2 hc hk
    obtain ⟨f, rfl⟩ : ∃ f, fuel = f + 1 := ⟨fuel - 1, by omega⟩
    rw [f_X1_gather_L7]
    refine rt_f (by rw [show (8 : Int32) = nI 8 from rfl]; exact (by rw [n_le (by omega) (by omega)]; omega)) ?_
    rw [wr_ok (by omega) (by omega), rdn_ok (by omega) (by omega), lt25_ok (by omega), nI_1]
    refine rt_bd1 c_clear ?_
    intro g hg
    refine ih (k + 1) f _ _ (by omega) (by omega) (fun k' hk' => ?_) hk
    by_cases e : k' = k
    · subst e; rw [va_up_e]; exact ⟨by simp [upd], hg⟩
    · rw [va_up_n e]; exact ⟨by simp [upd, e, (hc k' (by omega)).1], (hc k' (by omega)).2⟩
theorem c_sop {w h i : Nat} {g st : Nat → Nat} {c1 c2 nw : Nat → Int32} (ho : OKs st) (hw : w ≤ 16) (hh : h ≤ 16) (hs : SHc w h g st) (h1 : RLs (0, 0) (fun p => qP w st p.1) (prL w h g st) c1) (h2 : RLs (0, 0) (fun p => qP w st p.2) (prL w h g st) c2) (hi : i < (prL w h g st).length) :
    f_X4_shiftOfPair FU c1 c2 nw (nI i) = some (nw (31 * zY w st ((prL w h g st).getD i (0, 0)).1 ((prL w h g st).getD i (0, 0)).2 + zX w st ((prL w h g st).getD i (0, 0)).1 ((prL w h g st).getD i (0, 0)).2)) := by
  have h21 := pr_2137 (w := w) (h := h) (g := g) ho hw hh
  have hm := prL_mem.mp (getD_mem (z := (0, 0)) hi)
  have e1 : c1 i = nI (qP w st ((prL w h g st).getD i (0, 0)).1) := h1 i hi
  have e2 : c2 i = nI (qP w st ((prL w h g st).getD i (0, 0)).2) := h2 i hi
  generalize (prL w h g st).getD i (0, 0) = e at *
  have hs1 : e.1 < qN w h st := by omega
  have q1 := qP_256 ho hw hh hs1
  have q2 := qP_256 ho hw hh hm.2.1
  have y16 := zY_16 (w := w) (h := h) (st := st) (s := e.1) (t := e.2) ho hw hh hm.2.1
  have x31 := zX_31 (w := w) (st := st) (s := e.1) (t := e.2)
  unfold f_X4_shiftOfPair
  rw [rd_ok (by omega) (by omega), rd_ok (by omega) (by omega), rd_ok (by omega) (by omega), rd_ok (by omega) (by omega), e1, e2, md16 (by omega), md16 (by omega), dv16 (by omega), dv16 (by omega), pk_sub (pl_le ho hw hs1 hm.2.1 hm.1)]
  have eY : qP w st e.2 / 16 - qP w st e.1 / 16 = zY w st e.1 e.2 := rfl
  have eX : qP w st e.2 % 16 + 15 - qP w st e.1 % 16 = zX w st e.1 e.2 := rfl
  rw [eY, c_wayOf (by omega) (by omega), eX, bd1_s, rd_ok (by omega) (by omega)]
theorem c_ga37 {w h : Nat} {g st : Nat → Nat} {c1 c2 nw : Nat → Int32} {kk : _} {P : _} (ho : OKs st) (hw : w ≤ 16) (hh : h ≤ 16) (hs : SHc w h g st) (h1 : RLs (0, 0) (fun p => qP w st p.1) (prL w h g st) c1) (h2 : RLs (0, 0) (fun p => qP w st p.2) (prL w h g st) c2) (n1 : ∀ i, i < zKn w h g st → nw (zT w h g st i) = nI i) (n2 : ∀ v, v < 496 → (∀ i, i < zKn w h g st → zT w h g st i ≠ v) → nw v = -9) :
    ∀ (d i fuel : Nat) (cl : Nat → Nat → Int32), i + d = (prL w h g st).length → d < fuel → (∀ k, k < zKn w h g st → RB (cl k) (fun q => ∃ j, j < i ∧ zM w h g st ((prL w h g st).getD j (0, 0)) k q)) →
      (∀ (z : Int32) (cl : Nat → Nat → Int32), (∀ k, k < zKn w h g st → RB (cl k) (zW w h g st k)) → Rt (kk z cl) P) →
      Rt (f_X1_gather_L37 FU c1 c2 (nI (prL w h g st).length) nw kk fuel (nI i) cl) P := by
  have h21 := pr_2137 (w := w) (h := h) (g := g) ho hw hh
  have hK8 := hs.K8
  intro d
  induction d with
  | zero =>
    intro i fuel cl f1 f2 hc hk
    obtain ⟨f, rfl⟩ : ∃ f, fuel = f + 1 := ⟨fuel - 1, by omega⟩
    have ei : i = (prL w h g st).length := by omega
    subst ei
    rw [f_X1_gather_L37]
    exact rt_t (by rw [n_le (by omega) (by omega)]; omega) (hk _ _ hc)
  | succ d ih =>
    intro i fuel cl f1 f2 hc hk
    obtain ⟨f, rfl⟩ : ∃ f, fuel = f + 1 := ⟨fuel - 1, by omega⟩
    have hi : i < (prL w h g st).length := by omega
    have hm := prL_mem.mp (getD_mem (z := (0, 0)) hi)
    have e1 : c1 i = nI (qP w st ((prL w h g st).getD i (0, 0)).1) := h1 i hi
    rw [f_X1_gather_L37]
    refine rt_f (by rw [n_le (by omega) (by omega)]; omega) ?_
    rw [c_sop ho hw hh hs h1 h2 hi, bd1_s, nI_1, wi_eq]
    generalize eE : (prL w h g st).getD i (0, 0) = e at *
    have hs1 : e.1 < qN w h st := by omega
    have q1 := qP_256 ho hw hh hs1
    have y16 := zY_16 (w := w) (h := h) (st := st) (s := e.1) (t := e.2) ho hw hh hm.2.1
    have x31 := zX_31 (w := w) (st := st) (s := e.1) (t := e.2)
    have ex : ∀ k q, (∃ j, j < i + 1 ∧ zM w h g st ((prL w h g st).getD j (0, 0)) k q) ↔ (∃ j, j < i ∧ zM w h g st ((prL w h g st).getD j (0, 0)) k q) ∨ zM w h g st e k q := by
      intro k q
      constructor
      · rintro ⟨j, hj, hz⟩
        by_cases ej : j = i
        · subst ej; rw [eE] at hz; exact Or.inr hz
        · exact Or.inl ⟨j, by omega, hz⟩
      · rintro (⟨j, hj, hz⟩ | hz)
        · exact ⟨j, by omega, hz⟩
        · exact ⟨i, by omega, by rw [eE]; exact hz⟩
    by_cases hex : ∃ k, k < zKn w h g st ∧ zT w h g st k = 31 * zY w st e.1 e.2 + zX w st e.1 e.2
    · obtain ⟨k, hk1, hk2⟩ := hex
      rw [← hk2, n1 k hk1, show f_X8_within FU (nI k) 0 7 = some 1 from wi_in (a := 0) (b := 7) (n := k) (by omega) ⟨by omega, by omega, rfl⟩, bd1_s]
      refine rt_f (by decide) ?_
      rw [rdn_ok (by omega) (by omega), lt25_ok (by omega), rd_ok (by omega) (by omega), e1, dv16 (by omega), rd_ok (by omega) (by omega), rd_ok (by omega) (by omega), e1, md16 (by omega), wr_ok (by omega) (by omega)]
      refine ih (i + 1) f _ (by omega) (by omega) (fun k' hk' => ?_) hk
      by_cases ek : k' = k
      · subst ek
        rw [va_up_e]
        refine rb_cong (rb_set (hc k' hk') q1 rfl) (fun q hq => ?_)
        rw [ex k' q]
        refine or_congr Iff.rfl ?_
        unfold zM
        rw [hk2]
        exact ⟨fun z => ⟨by omega, by omega, z.symm⟩, fun z => z.2.2.symm⟩
      · rw [va_up_n ek]
        refine rb_cong (hc k' hk') (fun q hq => ?_)
        rw [ex k' q]
        refine ⟨fun z => Or.inl z, fun z => z.resolve_right (fun y => ?_)⟩
        have ht : zT w h g st k' = zT w h g st k := by rw [hk2, y.1, y.2.1]; omega
        rcases Nat.lt_trichotomy k' k with o | o | o
        · exact hs.ne k' k o hk1 ht
        · exact ek o
        · exact hs.ne k k' o hk' ht.symm
    · have hno : ∀ i, i < zKn w h g st → zT w h g st i ≠ 31 * zY w st e.1 e.2 + zX w st e.1 e.2 := fun k hk1 hk2 => hex ⟨k, hk1, hk2⟩
      rw [n2 _ (by omega) hno, show f_X8_within FU (-9) 0 7 = some 0 from wi_f (Or.inl (by decide)), bd1_s]
      refine rt_t rfl ?_
      refine ih (i + 1) f _ (by omega) (by omega) (fun k' hk' => ?_) hk
      refine rb_cong (hc k' hk') (fun q hq => ?_)
      rw [ex k' q]
      refine ⟨fun z => Or.inl z, fun z => z.resolve_right (fun y => ?_)⟩
      refine hno k' hk' ?_
      rw [y.1, y.2.1]; omega
theorem c_gather1 {w h : Nat} {g st : Nat → Nat} {l : Nat → Nat} {c1 c2 cpw cv cw nw crg fs fx fy fp fn fc : Nat → Int32} {cl cr : Nat → Nat → Int32} {np cn fcn : Int32} (ho : OKs st) (hw : w ≤ 16) (hh : h ≤ 16) (hS : CSh w h g st c1 c2 np cpw cv cw cn nw) (hl : LPm l) :
    Rt (f_X1_gather FU c1 c2 np cw cn nw l fcn crg cl cr fs fx fy fp fn fc) (fun q => (∃ K T, q.2.1 = nI K ∧ CG w h g st (zRL w h g st).length K T q.1 q.2.2.2.2.1 q.2.2.2.2.2.1 q.2.2.2.2.2.2.1 q.2.2.2.2.2.2.2.1 q.2.2.2.2.2.2.2.2.1 q.2.2.2.2.2.2.2.2.2) ∧ (∀ k', k' < zKn w h g st → q.2.2.1 k' = nI (rgI (zW w h g st) k' 256).length)) := by
  have h21 := pr_2137 (w := w) (h := h) (g := g) ho hw hh
  obtain ⟨p0, hs, hn, hcw, n1, n2⟩ := hS.can
  have hK8 := hs.K8
  obtain ⟨p1, p2, p3, p4, p5⟩ := p0
  subst hn p3
  unfold f_X1_gather
  refine c_ga1_7 8 0 FU crg cl (by omega) (by unfold FU; omega) (fun k' hk' => by omega) ?_
  intro z1 crg cl hcl
  refine c_ga37 ho hw hh hs p1 p2 n1 n2 (prL w h g st).length 0 FU cl (by omega) (by unfold FU; omega) (fun k hk => ?_) ?_
  · refine rb_cong (rb_0 (hcl k (by omega)).2) (fun q hq => ⟨fun z => absurd z (fun y => y), fun z => ?_⟩)
    obtain ⟨j, hj, _⟩ := z
    omega
  · intro z2 cl2 hW
    refine c_ga99 hs hcw (zKn w h g st) 0 FU l 0 crg cl2 cr fs fx fy fp fn (by omega) (by unfold FU; omega) ⟨⟨0, fun _ => 0, rfl, ⟨by omega, fun j hj => by omega, fun i j _ hj => by omega, fun u hu => by simp [rgO] at hu⟩, hl, fun i hi => by omega⟩, fun k' hk' => by omega, fun k' _ hk' => (hcl k' hk').1, fun k' _ hk' => hW k' hk'⟩ ?_
    intro z3 l fcn crg cl cr fs fx fy fp fn h1 h2
    exact rt_some ⟨h1, h2⟩
