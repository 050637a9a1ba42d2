/-! pairs: what they are -/
def zR (w h : Nat) (g st : Nat → Nat) (s : Nat) : Nat := roP (qN w h st) (st 5) (zK w g st) (zF w g st) s
def zC (w h : Nat) (g st : Nat → Nat) (s : Nat) : Nat := c2P (qN w h st) (st 5) (zK w g st) (zF w g st) s
def zX (w : Nat) (st : Nat → Nat) (s t : Nat) : Nat := qP w st t % 16 + 15 - qP w st s % 16
def zY (w : Nat) (st : Nat → Nat) (s t : Nat) : Nat := qP w st t / 16 - qP w st s / 16
def zD (a b : Nat) : Nat := (a - b) + (b - a)
def zFar (w : Nat) (st : Nat → Nat) (s t : Nat) : Bool := decide (st 4 ≤ zD (qP w st t % 16) (qP w st s % 16)) || decide (st 4 ≤ zY w st s t)
def zPr (w h : Nat) (g st : Nat → Nat) (s t : Nat) : Bool := (decide (zK w g st s = zK w g st t) && decide (zR w h g st s = 0)) && (decide (zR w h g st t = 0) && zFar w st s t)
theorem zR_0 {w h : Nat} {g st : Nat → Nat} {s : Nat} : zR w h g st s = 0 ↔ zF w g st s = 0 ∧ zC w h g st s = 0 := by
  unfold zC c2P
  show zR w h g st s = 0 ↔ zF w g st s = 0 ∧ (if zR w h g st s = 2 then 1 else 0) = 0
  have h1 := zF_1 w g st s
  have h2 : zR w h g st s = if zF w g st s = 1 then 1 else if st 5 < nlP (qN w h st) (zK w g st) (zF w g st) s then 2 else 0 := rfl
  rw [h2]
  by_cases e : zF w g st s = 1
  · rw [if_pos e]; simp; omega
  · rw [if_neg e]
    by_cases e2 : st 5 < nlP (qN w h st) (zK w g st) (zF w g st) s
    · rw [if_pos e2]; simp
    · rw [if_neg e2]; simp; omega
theorem zC_1 (w h : Nat) (g st : Nat → Nat) (s : Nat) : zC w h g st s ≤ 1 := by unfold zC c2P; split <;> omega
/-! the reference: who is like whom, crowds -/
theorem al_K {w h : Nat} {g st : Nat → Nat} {s t : Nat} (ho : OKs st) (hg : ∀ q, q < 256 → g q ≤ 99) (hw : w ≤ 16) (hh : h ≤ 16) (hs : s < qN w h st) (ht : t < qN w h st) : qAl g st (qP w st s) (qP w st t) ↔ zK w g st s = zK w g st t := by
  rw [← qC_0]
  exact (qC_K ho hg (OKp_s ho hw hh hs) (OKp_s ho hw hh ht)).2
theorem lk_eq {w h : Nat} {g st : Nat → Nat} {ck : Nat → Int32} {s t : Nat} (ho : OKs st) (hg : ∀ q, q < 256 → g q ≤ 99) (hw : w ≤ 16) (hh : h ≤ 16) (hL : LK w g st (qN w h st) ck) (hs : s < qN w h st) (ht : t < qN w h st) : ck s = ck t ↔ zK w g st s = zK w g st t := by
  have hN := qN_225 (w := w) (h := h) ho hw hh
  obtain ⟨a, a1, a2, a3, a4⟩ := hL s hs
  obtain ⟨b, b1, b2, b3, b4⟩ := hL t ht
  rw [a2, b2, n_inj (by omega) (by omega), ← al_K (h := h) ho hg hw hh hs ht]
  constructor
  · intro e
    subst e
    exact qAl_trans (qAl_sym a3) b3
  · intro e
    rcases Nat.lt_trichotomy a b with q | q | q
    · exact absurd (qAl_trans a3 e) (b4 a q)
    · exact q
    · exact absurd (qAl_trans b3 (qAl_sym e)) (a4 b q)
theorem lk_self {w h : Nat} {g st : Nat → Nat} {ck : Nat → Int32} {s : Nat} (ho : OKs st) (hg : ∀ q, q < 256 → g q ≤ 99) (hw : w ≤ 16) (hh : h ≤ 16) (hL : LK w g st (qN w h st) ck) (hs : s < qN w h st) : ck s = nI s ↔ fsP (zK w g st) s = 1 := by
  have hN := qN_225 (w := w) (h := h) ho hw hh
  obtain ⟨a, a1, a2, a3, a4⟩ := hL s hs
  rw [a2, n_inj (by omega) (by omega)]
  unfold fsP
  constructor
  · intro e
    subst e
    rw [if_pos]
    intro j hj q
    exact a4 j hj ((al_K (h := h) ho hg hw hh (by omega) hs).mpr q)
  · intro e
    by_cases c : ∀ j, j < s → zK w g st j ≠ zK w g st s
    · rcases Nat.lt_or_ge a s with q | q
      · exact absurd ((al_K (h := h) ho hg hw hh (by omega) hs).mp a3) (c a q)
      · omega
    · rw [if_neg c] at e; omega
theorem m_flat {FU w h s : Nat} {g st : Nat → Nat} {cs csq cd cl : Nat → Int32} (hS : RepS cs st) (hg : ∀ q, q < 256 → g q ≤ 99) (ho : OKs st) (hw : w ≤ 16) (hh : h ≤ 16) (hM : MS w g st (qN w h st) csq cd cl) (hs : s < qN w h st) : f_X8_isFlat FU cs cd cl (nI s) = some (nI (zF w g st s)) := by
  have hN := qN_225 (w := w) (h := h) ho hw hh
  have dq : Decidable (qFl g st (qP w st s)) := Nat.decLe _ _
  rw [m_isFlat (p := qP w st s) hS hg ho (by omega) (hM s hs).2.1 (hM s hs).2.2 (OKp_s ho hw hh hs)]
  unfold zF qF
  by_cases c : qMx g st (qP w st s) - qMn g st (qP w st s) ≤ st 3
  · rw [if_pos c, if_pos (show qFl g st (qP w st s) from c)]; rfl
  · rw [if_neg c, if_neg (show ¬ qFl g st (qP w st s) from c)]; rfl
theorem m_many {w h s : Nat} {g st : Nat → Nat} {cs csq cd cl ck : Nat → Int32} {any : Nat} {k : _} {P : _} (hS : RepS cs st) (hg : ∀ q, q < 256 → g q ≤ 99) (ho : OKs st) (hw : w ≤ 16) (hh : h ≤ 16) (hM : MS w g st (qN w h st) csq cd cl) (hL : LK w g st (qN w h st) ck) (hs : s < qN w h st) (ha : any ≤ 1) :
    ∀ (d t fuel : Nat), t + d = qN w h st → d < fuel → (∀ z : Int32, Rt (k (nI (fb_sm (fun t => if zK w g st t = zK w g st s then (if any = 1 then 1 else 1 - zF w g st t) else 0) (qN w h st))) z) P) →
      Rt (f_X8_manyLike_L5 FU (nI s) (nI any) cs (nI (qN w h st)) cd cl ck k fuel (nI (fb_sm (fun t => if zK w g st t = zK w g st s then (if any = 1 then 1 else 1 - zF w g st t) else 0) t)) (nI t)) P := by
  have hN := qN_225 (w := w) (h := h) ho hw hh
  intro d
  induction d with
  | zero =>
    intro t fuel e1 e2 hk
    obtain ⟨f, rfl⟩ : ∃ f, fuel = f + 1 := ⟨fuel - 1, by omega⟩
    have et : t = qN w h st := by omega
    rw [f_X8_manyLike_L5, ← et]
    rw [← et] at hk
    exact rt_t (by rw [n_le (by omega) (by omega)]; omega) (hk _)
  | succ d ih =>
    intro t fuel e1 e2 hk
    obtain ⟨f, rfl⟩ : ∃ f, fuel = f + 1 := ⟨fuel - 1, by omega⟩
    have ht : t < qN w h st := by omega
    rw [f_X8_manyLike_L5]
    refine rt_f (by rw [n_le (by omega) (by omega)]; omega) ?_
    rw [rd_ok (by omega) (by omega), rd_ok (by omega) (by omega), nI_1]
    have key := ih (t + 1) f (by omega) (by omega) hk
    rw [fb_sm_succ, ← nI_add] at key
    refine rt_jn ?_
    have h1 := zF_1 w g st t
    refine rt_if (fun c => ?_) (fun c => ?_)
    · rw [lk_eq ho hg hw hh hL ht hs] at c
      rw [if_pos c] at key
      by_cases e : any = 1
      · subst e
        rw [if_pos rfl] at key
        exact rt_f (by decide) key
      · rw [if_neg e] at key
        have e0 : any = 0 := by omega
        subst e0
        refine rt_t rfl ?_
        rw [m_flat hS hg ho hw hh hM ht, bd1_s]
        refine rt_if (fun c => ?_) (fun c => ?_)
        · rw [show (0 : Int32) = nI 0 from rfl, n_inj (by omega) (by omega)] at c
          rw [c] at key
          exact key
        · rw [show (0 : Int32) = nI 0 from rfl, n_inj (by omega) (by omega)] at c
          rw [show 1 - zF w g st t = 0 by omega] at key
          exact key
    · rw [lk_eq ho hg hw hh hL ht hs] at c
      rw [if_neg c] at key
      exact key
theorem m_manyLike {w h s : Nat} {g st : Nat → Nat} {cs csq cd cl ck : Nat → Int32} (any : Nat) (hS : RepS cs st) (hg : ∀ q, q < 256 → g q ≤ 99) (ho : OKs st) (hw : w ≤ 16) (hh : h ≤ 16) (hM : MS w g st (qN w h st) csq cd cl) (hL : LK w g st (qN w h st) ck) (hs : s < qN w h st) (ha : any ≤ 1) :
    f_X8_manyLike FU cs (nI (qN w h st)) cd cl ck (nI s) (nI any) = some (nI (fb_sm (fun t => if zK w g st t = zK w g st s then (if any = 1 then 1 else 1 - zF w g st t) else 0) (qN w h st))) := by
  have hN := qN_225 (w := w) (h := h) ho hw hh
  have t : Rt (f_X8_manyLike FU cs (nI (qN w h st)) cd cl ck (nI s) (nI any)) (fun q => q = nI (fb_sm (fun t => if zK w g st t = zK w g st s then (if any = 1 then 1 else 1 - zF w g st t) else 0) (qN w h st))) := by
    unfold f_X8_manyLike
    exact m_many hS hg ho hw hh hM hL hs ha (qN w h st) 0 FU (by omega) (by unfold FU; omega) (fun z => rt_some rfl)
  obtain ⟨q, e, rfl⟩ := t
  exact e
theorem nl_le {w h s : Nat} {g st : Nat → Nat} (ho : OKs st) (hw : w ≤ 16) (hh : h ≤ 16) : nlP (qN w h st) (zK w g st) (zF w g st) s ≤ 225 := by
  have hN := qN_225 (w := w) (h := h) ho hw hh
  have : nlP (qN w h st) (zK w g st) (zF w g st) s ≤ qN w h st * 1 := fb_sm_bound (fun _ _ => by split <;> omega)
  omega
theorem m_crowds {w h : Nat} {g st : Nat → Nat} {cs csq cd cl ck : Nat → Int32} {k : _} {P : _} (hS : RepS cs st) (hg : ∀ q, q < 256 → g q ≤ 99) (ho : OKs st) (hw : w ≤ 16) (hh : h ≤ 16) (hM : MS w g st (qN w h st) csq cd cl) (hL : LK w g st (qN w h st) ck) :
    ∀ (d s fuel : Nat) (cw : Nat → Int32), s + d = qN w h st → d < fuel → (∀ t, t < s → cw t = nI (zC w h g st t)) → (∀ (z : Int32) (cw' : Nat → Int32), (∀ t, t < qN w h st → cw' t = nI (zC w h g st t)) → Rt (k z cw') P) →
      Rt (f_X8_findCrowds_L2 FU cs (nI (qN w h st)) cd cl ck k fuel (nI s) cw) P := by
  have hN := qN_225 (w := w) (h := h) ho hw hh
  have hc5 := ho.crowd
  intro d
  induction d with
  | zero =>
    intro s fuel cw e1 e2 hc hk
    obtain ⟨f, rfl⟩ : ∃ f, fuel = f + 1 := ⟨fuel - 1, by omega⟩
    rw [f_X8_findCrowds_L2]
    exact rt_t (by rw [n_le (by omega) (by omega)]; omega) (hk _ _ (fun t ht => hc t (by omega)))
  | succ d ih =>
    intro s fuel cw e1 e2 hc hk
    obtain ⟨f, rfl⟩ : ∃ f, fuel = f + 1 := ⟨fuel - 1, by omega⟩
    have hs : s < qN w h st := by omega
    have hnl := nl_le (w := w) (h := h) (s := s) (g := g) ho hw hh
    have h1 := zF_1 w g st s
    rw [f_X8_findCrowds_L2]
    refine rt_f (by rw [n_le (by omega) (by omega)]; omega) ?_
    rw [m_flat hS hg ho hw hh hM hs, bd1_s, nI_1]
    have ez : zC w h g st s = if zF w g st s = 1 then 0 else if st 5 < nlP (qN w h st) (zK w g st) (zF w g st) s then 1 else 0 := by
      unfold zC c2P roP
      by_cases e : zF w g st s = 1
      · rw [if_pos e, if_pos e]; rfl
      · rw [if_neg e, if_neg e]; split <;> rfl
    have key : ∀ v : Int32, v = nI (zC w h g st s) → Rt (wrz cw 225 (nI s) v (fun c_isCrowded_10 => f_X8_findCrowds_L2 FU cs (nI (qN w h st)) cd cl ck k f (nI (s + 1)) c_isCrowded_10)) P := by
      intro v hv
      rw [wrz_ok (by omega) (by omega)]
      refine ih (s + 1) f _ (by omega) (by omega) ?_ hk
      intro t ht
      by_cases e : t = s
      · subst e
        have hb : vp_nar .boolean v = v := by
          have h2 := zC_1 w h g st t
          have h3 : zC w h g st t = 0 ∨ zC w h g st t = 1 := by omega
          rcases h3 with h3 | h3 <;> rw [hv, h3] <;> rfl
        rw [hb, hv]
        simp [upd]
      · simp [upd, e, hc t (by omega)]
    refine rt_jn ?_
    refine rt_if (fun c => ?_) (fun c => ?_)
    · rw [show (0 : Int32) = nI 0 from rfl, n_inj (by omega) (by omega)] at c
      rw [show (0 : Int32) = nI 0 from rfl, m_manyLike 0 hS hg ho hw hh hM hL hs (by omega), bd1_s, show (5 : Int32) = nI 5 from rfl, rd_ok (by omega) (by omega), hS 5 (by omega)]
      have es : fb_sm (fun t => if zK w g st t = zK w g st s then (if 0 = 1 then 1 else 1 - zF w g st t) else 0) (qN w h st) = nlP (qN w h st) (zK w g st) (zF w g st) s := rfl
      rw [es]
      refine rt_if (fun c2 => ?_) (fun c2 => ?_)
      · rw [n_le (by omega) (by omega)] at c2
        exact key _ (by rw [ez, if_neg (by omega), if_neg (by omega)])
      · rw [n_le (by omega) (by omega)] at c2
        exact key _ (by rw [ez, if_neg (by omega), if_pos (by omega)]; rfl)
    · rw [show (0 : Int32) = nI 0 from rfl, n_inj (by omega) (by omega)] at c
      exact key _ (by rw [ez, if_pos (by omega)]; rfl)
theorem m_findCrowds {w h : Nat} {g st : Nat → Nat} {cs csq cd cl ck cw : Nat → Int32} (hS : RepS cs st) (hg : ∀ q, q < 256 → g q ≤ 99) (ho : OKs st) (hw : w ≤ 16) (hh : h ≤ 16) (hM : MS w g st (qN w h st) csq cd cl) (hL : LK w g st (qN w h st) ck) :
    Rt (f_X8_findCrowds FU cs (nI (qN w h st)) cd cl ck cw) (fun q => ∀ t, t < qN w h st → q t = nI (zC w h g st t)) := by
  have hN := qN_225 (w := w) (h := h) ho hw hh
  unfold f_X8_findCrowds
  exact m_crowds hS hg ho hw hh hM hL (qN w h st) 0 FU cw (by omega) (by unfold FU; omega) (fun t ht => by omega) (fun z cw' h => rt_some h)
/-! the reference: shifts of two squares -/
theorem md16 {p : Nat} (hp : p < 2147483648) : nI p - nI p / 16 * 16 = nI (p % 16) := by
  rw [show (16 : Int32) = nI 16 from rfl, pk_div hp (by omega) (by omega), pk_mul, pk_sub (by omega)]
  congr 1
  omega
theorem dv16 {p : Nat} (hp : p < 2147483648) : nI p / 16 = nI (p / 16) := by rw [show (16 : Int32) = nI 16 from rfl, pk_div hp (by omega) (by omega)]
theorem sz_all : ∀ a, a < 16 → ∀ b, b < 16 → (0 ≤ nI a - nI b ∧ nI a - nI b = nI (zD a b)) ∨ (¬ 0 ≤ nI a - nI b ∧ -(nI a - nI b) = nI (zD a b) ∧ 0 - (nI a - nI b) = nI (zD a b)) := by decide +kernel
theorem m_size {FU a b : Nat} (ha : a < 16) (hb : b < 16) : f_X8_size FU (nI a - nI b) = some (nI (zD a b)) := by
  unfold f_X8_size
  rcases sz_all a ha b hb with q | q
  · rw [if_pos q.1, q.2]
  · rw [if_neg q.1, q.2.1]
theorem c_abs {a b : Nat} (ha : a < 16) (hb : b < 16) : (if 0 ≤ nI a - nI b then nI a - nI b else 0 - (nI a - nI b)) = nI (zD a b) := by
  rcases sz_all a ha b hb with q | q
  · rw [if_pos q.1, q.2]
  · rw [if_neg q.1, q.2.2]
theorem m_across {FU w h s t : Nat} {st : Nat → Nat} {g : Nat → Nat} {csq cd cl : Nat → Int32} (ho : OKs st) (hw : w ≤ 16) (hh : h ≤ 16) (hM : MS w g st (qN w h st) csq cd cl) (hs : s < qN w h st) (ht : t < qN w h st) : f_X8_across FU csq (nI s) (nI t) = some (nI (qP w st t % 16) - nI (qP w st s % 16)) := by
  have hN := qN_225 (w := w) (h := h) ho hw hh
  have p1 := qP_256 ho hw hh hs
  have p2 := qP_256 ho hw hh ht
  unfold f_X8_across
  rw [rd_ok (by omega) (by omega), rd_ok (by omega) (by omega), (hM s hs).1, (hM t ht).1, md16 (by omega), md16 (by omega)]
theorem pl_le {w h s t : Nat} {st : Nat → Nat} (ho : OKs st) (hw : w ≤ 16) (hs : s < qN w h st) (ht : t < qN w h st) (hst : s < t) : qP w st s / 16 ≤ qP w st t / 16 := by
  have := (qP_lt (h := h) ho hw hs ht).mpr hst
  omega
theorem m_down {FU w h s t : Nat} {st : Nat → Nat} {g : Nat → Nat} {csq cd cl : Nat → Int32} (ho : OKs st) (hw : w ≤ 16) (hh : h ≤ 16) (hM : MS w g st (qN w h st) csq cd cl) (hs : s < qN w h st) (ht : t < qN w h st) (hst : s < t) : f_X8_down FU csq (nI s) (nI t) = some (nI (zY w st s t)) := by
  have hN := qN_225 (w := w) (h := h) ho hw hh
  have p1 := qP_256 ho hw hh hs
  have p2 := qP_256 ho hw hh ht
  unfold f_X8_down
  rw [rd_ok (by omega) (by omega), rd_ok (by omega) (by omega), (hM s hs).1, (hM t ht).1, dv16 (by omega), dv16 (by omega), pk_sub (pl_le ho hw hs ht hst)]
  rfl
theorem m_isPair {FU w h s t : Nat} {st g : Nat → Nat} {cs csq cd cl ck cw : Nat → Int32} (hS : RepS cs st) (hg : ∀ q, q < 256 → g q ≤ 99) (ho : OKs st) (hw : w ≤ 16) (hh : h ≤ 16) (hM : MS w g st (qN w h st) csq cd cl) (hL : LK w g st (qN w h st) ck) (hC : ∀ t, t < qN w h st → cw t = nI (zC w h g st t)) (hs : s < qN w h st) (ht : t < qN w h st) (hst : s < t) :
    f_X8_isPair FU cs csq cd cl ck cw (nI s) (nI t) = some (if zPr w h g st s t then 1 else 0) := by
  have hN := qN_225 (w := w) (h := h) ho hw hh
  have hr := ho.reach
  have p1 := qP_256 ho hw hh hs
  have p2 := qP_256 ho hw hh ht
  have f1 := zF_1 w g st s
  have f2 := zF_1 w g st t
  have c1 := zC_1 w h g st s
  have c2 := zC_1 w h g st t
  have r1 := zR_0 (w := w) (h := h) (g := g) (st := st) (s := s)
  have r2 := zR_0 (w := w) (h := h) (g := g) (st := st) (s := t)
  have hy : zY w st s t < 16 := by unfold zY; omega
  have hd : zD (qP w st t % 16) (qP w st s % 16) < 32 := by unfold zD; omega
  unfold f_X8_isPair
  rw [rd_ok (by omega) (by omega), rd_ok (by omega) (by omega)]
  have no : (¬ zPr w h g st s t = true) → (if zPr w h g st s t = true then (1 : Int32) else 0) = 0 := fun q => if_neg q
  by_cases e1 : zK w g st s = zK w g st t
  · rw [if_pos ((lk_eq ho hg hw hh hL hs ht).mpr e1), m_flat hS hg ho hw hh hM hs, bd1_s]
    by_cases e2 : zF w g st s = 0
    · rw [if_pos (by rw [e2]; rfl), m_flat hS hg ho hw hh hM ht, bd1_s]
      by_cases e3 : zF w g st t = 0
      · rw [if_pos (by rw [e3]; rfl), rd_ok (by omega) (by omega), hC s hs]
        by_cases e4 : zC w h g st s = 0
        · rw [if_pos (by rw [e4]; rfl), rd_ok (by omega) (by omega), hC t ht]
          by_cases e5 : zC w h g st t = 0
          · rw [if_pos (by rw [e5]; rfl), m_across ho hw hh hM hs ht, bd1_s, m_size (by omega) (by omega), bd1_s, show (4 : Int32) = nI 4 from rfl, rd_ok (by omega) (by omega), hS 4 (by omega)]
            have e6 : zPr w h g st s t = zFar w st s t := by unfold zPr; simp [e1, r1.mpr ⟨e2, e4⟩, r2.mpr ⟨e3, e5⟩]
            rw [e6]
            unfold zFar
            by_cases e7 : st 4 ≤ zD (qP w st t % 16) (qP w st s % 16)
            · rw [if_pos (by rw [n_le (by omega) (by omega)]; omega), if_pos (by simp [e7])]
            · rw [if_neg (by rw [n_le (by omega) (by omega)]; omega), m_down ho hw hh hM hs ht hst, bd1_s, rd_ok (by omega) (by omega), hS 4 (by omega)]
              by_cases e8 : st 4 ≤ zY w st s t
              · rw [if_neg (by rw [n_lt (by omega) (by omega)]; omega), if_pos (by simp [e8])]
              · rw [if_pos (by rw [n_lt (by omega) (by omega)]; omega), if_neg (by simp [e7, e8])]
          · rw [if_neg (by rw [show (0 : Int32) = nI 0 from rfl, n_inj (by omega) (by omega)]; exact e5), no]
            intro q; unfold zPr at q; simp at q; exact e5 (r2.mp q.2.1).2
        · rw [if_neg (by rw [show (0 : Int32) = nI 0 from rfl, n_inj (by omega) (by omega)]; exact e4), no]
          intro q; unfold zPr at q; simp at q; exact e4 (r1.mp q.1.2).2
      · rw [if_neg (by rw [show (0 : Int32) = nI 0 from rfl, n_inj (by omega) (by omega)]; exact e3), no]
        intro q; unfold zPr at q; simp at q; exact e3 (r2.mp q.2.1).1
    · rw [if_neg (by rw [show (0 : Int32) = nI 0 from rfl, n_inj (by omega) (by omega)]; exact e2), no]
      intro q; unfold zPr at q; simp at q; exact e2 (r1.mp q.1.2).1
  · rw [if_neg (fun q => e1 ((lk_eq ho hg hw hh hL hs ht).mp q)), no]
    intro q; unfold zPr at q; simp at q; exact e1 q.1.1
