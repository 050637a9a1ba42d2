/-! the reference finds the pairs -/
def RVm (w : Nat) (st : Nat → Nat) (L : List (Nat × Nat)) (c : Nat → Int32) : Prop := ∀ a d, a < 31 → d < 16 → c (16 * a + d) = nI (vtL w st L a d)
theorem RVm_snoc {w : Nat} {st : Nat → Nat} {L : List (Nat × Nat)} {p : Nat × Nat} {c : Nat → Int32} (h : RVm w st L c) (hx : zX w st p.1 p.2 < 31) (hy : zY w st p.1 p.2 < 16) : RVm w st (L ++ [p]) (upd c (16 * zX w st p.1 p.2 + zY w st p.1 p.2) (nI (vtL w st L (zX w st p.1 p.2) (zY w st p.1 p.2) + 1))) := by
  intro a d ha hd
  rw [vt_snoc]
  by_cases e : zX w st p.1 p.2 = a ∧ zY w st p.1 p.2 = d
  · rw [if_pos e, e.1, e.2]; simp [upd]
  · have ne : 16 * a + d ≠ 16 * zX w st p.1 p.2 + zY w st p.1 p.2 := fun q => e ⟨by omega, by omega⟩
    rw [if_neg e]; simp only [upd, ne, if_false]
    exact h a d ha hd
def MPs (w : Nat) (st : Nat → Nat) (L : List (Nat × Nat)) (np : Int32) (c1 c2 cv : Nat → Int32) : Prop := np = nI L.length ∧ RLs (0, 0) (fun p => p.1) L c1 ∧ RLs (0, 0) (fun p => p.2) L c2 ∧ RVm w st L cv
theorem m_fp65 {w h s : Nat} {st g : Nat → Nat} {cs csq cd cl ck cw : Nat → Int32} {k : _} {P : _} (hS : RepS cs st) (hg : ∀ q, q < 256 → g q ≤ 99) (ho : OKs st) (hw : w ≤ 16) (hh : h ≤ 16) (hM : MS w g st (qN w h st) csq cd cl) (hL : LK w g st (qN w h st) ck) (hC : ∀ t, t < qN w h st → cw t = nI (zC w h g st t)) (hs : s < qN w h st) :
    ∀ (d t fuel : Nat) (np : Int32) (c1 c2 cv : Nat → Int32), t + d = qN w h st → d < fuel → s < t → MPs w st (prO w h g st s ++ prI w h g st s t) np c1 c2 cv →
      (∀ (z np : Int32) (c1 c2 cv : Nat → Int32), MPs w st (prO w h g st (s + 1)) np c1 c2 cv → Rt (k z np c1 c2 cv) P) →
      Rt (f_X8_findPairs_L65 FU (nI s) cs (nI (qN w h st)) csq cd cl ck cw k fuel (nI t) np c1 c2 cv) P := by
  have hN := qN_225 (w := w) (h := h) ho hw hh
  have h21 := pr_2137 (w := w) (h := h) (g := g) ho hw hh
  intro d
  induction d with
  | zero =>
    intro t fuel np c1 c2 cv e1 e2 e3 hp hk
    obtain ⟨f, rfl⟩ : ∃ f, fuel = f + 1 := ⟨fuel - 1, by omega⟩
    have et : t = qN w h st := by omega
    subst et
    rw [f_X8_findPairs_L65]
    exact rt_t (by rw [n_le (by omega) (by omega)]; omega) (hk _ _ _ _ _ hp)
  | succ d ih =>
    intro t fuel np c1 c2 cv e1 e2 e3 hp hk
    obtain ⟨f, rfl⟩ : ∃ f, fuel = f + 1 := ⟨fuel - 1, by omega⟩
    have ht : t < qN w h st := by omega
    rw [f_X8_findPairs_L65]
    refine rt_f (by rw [n_le (by omega) (by omega)]; omega) ?_
    rw [m_isPair hS hg ho hw hh hM hL hC hs ht e3, bd1_s, nI_1]
    have es := prI_s w h g st s t
    have hz : zE w h g st s t = zPr w h g st s t := by unfold zE; simp [e3]
    rw [hz] at es
    by_cases c : zPr w h g st s t = true
    · rw [if_pos c] at es ⊢
      refine rt_f (by decide) ?_
      obtain ⟨p1, p2, p3, p4⟩ := hp
      have hpre := pr_pre (w := w) (h := h) (g := g) (st := st) (s := s) (t := t + 1) hs (by omega)
      rw [es, ← List.append_assoc] at hpre
      generalize eL : prO w h g st s ++ prI w h g st s t = L at *
      rw [List.length_append] at hpre
      simp only [List.length_singleton] at hpre
      have hl : L.length < 2137 := by omega
      have hx := zX_31 (w := w) (st := st) (s := s) (t := t)
      have hy := zY_16 (w := w) (h := h) (st := st) (s := s) (t := t) ho hw hh ht
      have hvl := vt_le (w := w) (st := st) (L := L) (a := zX w st s t) (d := zY w st s t)
      subst p1
      rw [wr_ok (by omega) (by omega), wr_ok (by omega) (by omega), m_across ho hw hh hM hs ht, bd1_s, m_down ho hw hh hM hs ht e3, bd1_s]
      unfold f_X8_voteAt
      rw [bd1_s, ax_ok _ (by omega) _ (by omega), show (16 : Int32) = nI 16 from rfl, pk_mul, nI_add]
      have ei : 16 * (qP w st t % 16 + 15 - qP w st s % 16) + zY w st s t = 16 * zX w st s t + zY w st s t := rfl
      rw [ei, rd_ok (by omega) (by omega), p4 _ _ hx hy, nI_1, nI_1, wr_ok (by omega) (by omega)]
      refine ih (t + 1) f _ _ _ _ (by omega) (by omega) (by omega) ?_ hk
      rw [es, ← List.append_assoc, eL]
      exact ⟨by simp, RLs_snoc (p := (s, t)) p2, RLs_snoc (p := (s, t)) p3, RVm_snoc (p := (s, t)) p4 hx hy⟩
    · rw [if_neg c] at es ⊢
      refine rt_t rfl ?_
      refine ih (t + 1) f _ _ _ _ (by omega) (by omega) (by omega) ?_ hk
      rw [es, List.append_nil]
      exact hp
theorem m_fp53 {w h : Nat} {st g : Nat → Nat} {cs csq cd cl ck cw : Nat → Int32} {k : _} {P : _} (hS : RepS cs st) (hg : ∀ q, q < 256 → g q ≤ 99) (ho : OKs st) (hw : w ≤ 16) (hh : h ≤ 16) (hM : MS w g st (qN w h st) csq cd cl) (hL : LK w g st (qN w h st) ck) (hC : ∀ t, t < qN w h st → cw t = nI (zC w h g st t)) :
    ∀ (d s fuel : Nat) (np : Int32) (c1 c2 cv : Nat → Int32), s + d = qN w h st → d < fuel → MPs w st (prO w h g st s) np c1 c2 cv →
      (∀ (z np : Int32) (c1 c2 cv : Nat → Int32), MPs w st (prL w h g st) np c1 c2 cv → Rt (k z np c1 c2 cv) P) →
      Rt (f_X8_findPairs_L53 FU cs (nI (qN w h st)) csq cd cl ck cw k fuel (nI s) np c1 c2 cv) P := by
  have hN := qN_225 (w := w) (h := h) ho hw hh
  intro d
  induction d with
  | zero =>
    intro s fuel np c1 c2 cv e1 e2 hp hk
    obtain ⟨f, rfl⟩ : ∃ f, fuel = f + 1 := ⟨fuel - 1, by omega⟩
    have es : s = qN w h st := by omega
    subst es
    rw [f_X8_findPairs_L53]
    exact rt_t (by rw [n_le (by omega) (by omega)]; omega) (hk _ _ _ _ _ hp)
  | succ d ih =>
    intro s fuel np c1 c2 cv e1 e2 hp hk
    obtain ⟨f, rfl⟩ : ∃ f, fuel = f + 1 := ⟨fuel - 1, by omega⟩
    rw [f_X8_findPairs_L53]
    refine rt_f (by rw [n_le (by omega) (by omega)]; omega) ?_
    rw [nI_1]
    refine m_fp65 hS hg ho hw hh hM hL hC (by omega : s < qN w h st) (qN w h st - (s + 1)) (s + 1) FU np c1 c2 cv (by omega) (by unfold FU; omega) (by omega) ?_ ?_
    · rw [prI_low, List.append_nil]; exact hp
    · intro z np c1 c2 cv hp'
      exact ih (s + 1) f np c1 c2 cv (by omega) (by omega) hp' hk
theorem m_fp29 {k : _} {P : _} : ∀ (d i fuel : Nat) (cv : Nat → Int32), i + d = 496 → d < fuel → (∀ j, j < i → cv j = 0) → (∀ (z : Int32) (cv' : Nat → Int32), (∀ j, j < 496 → cv' j = 0) → Rt (k z cv') P) → Rt (f_X8_findPairs_L29 FU k fuel (nI i) cv) P := by
  intro d
  induction d with
  | zero =>
    intro i fuel cv e1 e2 hc hk
    obtain ⟨f, rfl⟩ : ∃ f, fuel = f + 1 := ⟨fuel - 1, by omega⟩
    rw [f_X8_findPairs_L29]
    exact rt_t (by rw [show (496 : Int32) = nI 496 from rfl]; exact (by rw [n_le (by omega) (by omega)]; omega)) (hk _ _ (fun j hj => hc j (by omega)))
  | succ d ih =>
    intro i fuel cv e1 e2 hc hk
    obtain ⟨f, rfl⟩ : ∃ f, fuel = f + 1 := ⟨fuel - 1, by omega⟩
    rw [f_X8_findPairs_L29]
    refine rt_f (by rw [show (496 : Int32) = nI 496 from rfl]; exact (by rw [n_le (by omega) (by omega)]; omega)) ?_
    rw [wr_ok (by omega) (by omega), nI_1]
    refine ih (i + 1) f _ (by omega) (by omega) (fun j hj => ?_) hk
    by_cases e : j = i
    · subst e; simp [upd]
    · simp [upd, e, hc j (by omega)]
def MPr (w h : Nat) (g st : Nat → Nat) (cw : Nat → Int32) (np : Int32) (c1 c2 cv : Nat → Int32) : Prop := (∀ t, t < qN w h st → cw t = nI (zC w h g st t)) ∧ MPs w st (prL w h g st) np c1 c2 cv
theorem m_findPairs {w h om : Nat} {g st : Nat → Nat} {m_squares np : Int32} {cg cs csq cd cl ck cw c1 c2 cv : Nat → Int32} (hG : RepG cg g) (hS : RepS cs st) (hg : ∀ q, q < 256 → g q ≤ 99) (ho : OKs st) (hw : w ≤ 16) (hh : h ≤ 16) (hom : om ≤ 5) (hc : 1 ≤ om → MSq w h g st m_squares csq cd cl ck) (hc2 : 2 ≤ om → MPr w h g st cw np c1 c2 cv) :
    Rt (f_X8_findPairs FU (nI om) (nI w) (nI h) cg cs m_squares csq cd cl ck cw np c1 c2 cv) (fun q => q.1 = nI (max om 2) ∧ MSq w h g st q.2.1 q.2.2.1 q.2.2.2.1 q.2.2.2.2.1 q.2.2.2.2.2.1 ∧ MPr w h g st q.2.2.2.2.2.2.1 q.2.2.2.2.2.2.2.1 q.2.2.2.2.2.2.2.2.1 q.2.2.2.2.2.2.2.2.2.1 q.2.2.2.2.2.2.2.2.2.2 ∧ (2 ≤ om → q = (nI om, m_squares, csq, cd, cl, ck, cw, np, c1, c2, cv))) := by
  have hN := qN_225 (w := w) (h := h) ho hw hh
  unfold f_X8_findPairs
  by_cases e : 2 ≤ om
  · refine rt_f (by rw [show (1 : Int32) = nI 1 from rfl]; exact (by rw [n_le (by omega) (by omega)]; omega)) ?_
    refine rt_some ⟨by rw [show max om 2 = om by omega], hc (by omega), hc2 e, fun _ => rfl⟩
  · refine rt_t (by rw [show (1 : Int32) = nI 1 from rfl]; exact (by rw [n_le (by omega) (by omega)]; omega)) ?_
    refine rt_bd6 (m_findSquares hG hS hg ho hw hh hom hc) ?_
    intro a1 a2 a3 a4 a5 a6 hz
    obtain ⟨om', _, _, _, _, z1, ⟨z2, z3, z4⟩, _⟩ := hz
    dsimp only at z1 z2 z3 z4
    subst z2
    refine rt_bd1 (m_findCrowds (cw := cw) hS hg ho hw hh z3 z4) ?_
    intro b1 hb
    refine m_fp29 496 0 FU cv (by omega) (by unfold FU; omega) (fun j hj => by omega) ?_
    intro z cv' hcv
    refine m_fp53 hS hg ho hw hh z3 z4 hb (qN w h st) 0 FU 0 c1 c2 cv' (by omega) (by unfold FU; omega) ⟨rfl, fun k hk => by simp [prO] at hk, fun k hk => by simp [prO] at hk, fun a d ha hd => ?_⟩ ?_
    · rw [hcv _ (by omega)]; simp [vtL, prO]; rfl
    · intro z2 np c1 c2 cv hp
      refine rt_some ⟨by rw [show max om 2 = 2 by omega]; rfl, ⟨rfl, z3, z4⟩, ⟨hb, hp⟩, fun q => by omega⟩
