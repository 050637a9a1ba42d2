/-! the class chooses the shifts -/
def vLen (v : Nat) : Nat := zD (v % 31) 15 + v / 31
def ahW (V : Nat → Nat) (v u : Nat) : Prop := V u < V v ∨ (V v = V u ∧ (vLen v < vLen u ∨ (vLen v = vLen u ∧ v < u)))
theorem ahW_sto (V : Nat → Nat) : STO (ahW V) := by
  refine ⟨fun a => ?_, fun a b c => ?_, fun a b => ?_⟩ <;> unfold ahW <;> omega
def zV (w h : Nat) (g st : Nat → Nat) (v : Nat) : Nat := vtL w st (prL w h g st) (v % 31) (v / 31)
theorem zV_le {w h : Nat} {g st : Nat → Nat} (ho : OKs st) (hw : w ≤ 16) (hh : h ≤ 16) (v : Nat) : zV w h g st v ≤ 2137 := Nat.le_trans vt_le (pr_2137 ho hw hh)
theorem rvc_v {w h : Nat} {g st : Nat → Nat} {cv : Nat → Int32} (hV : RVc w st (prL w h g st) cv) {v : Nat} (hv : v < 496) : cv v = nI (zV w h g st v) := by
  have := hV (v % 31) (v / 31) (by omega) (by omega)
  rw [show 31 * (v / 31) + v % 31 = v by omega] at this
  exact this
theorem ab31 : ∀ a, a < 31 → (if 0 ≤ nI a - 15 then nI a - 15 else 0 - (nI a - 15)) = nI (zD a 15) := by decide +kernel
theorem md31 {p : Nat} (hp : p < 2147483648) : nI p - nI p / 31 * 31 = nI (p % 31) := by
  rw [show (31 : Int32) = nI 31 from rfl, pk_div hp (by omega) (by omega), pk_mul, pk_sub (by omega)]
  congr 1
  omega
theorem dv31 {p : Nat} (hp : p < 2147483648) : nI p / 31 = nI (p / 31) := by rw [show (31 : Int32) = nI 31 from rfl, pk_div hp (by omega) (by omega)]
theorem c_ahead {FU v u : Nat} {V : Nat → Nat} {cv : Nat → Int32} (hV : ∀ v, v < 496 → cv v = nI (V v)) (hb : ∀ v, V v ≤ 2137) (hv : v < 496) (hu : u < 496) : Rt (f_X4_isAhead FU cv (nI v) (nI u)) (fun r => (r = 0 ↔ ¬ ahW V v u)) := by
  have b1 := hb v
  have b2 := hb u
  have d1 : zD (v % 31) 15 < 31 := by unfold zD; omega
  have d2 : zD (u % 31) 15 < 31 := by unfold zD; omega
  have no : ∀ q : Prop, q → (((0 : Int32) = 0) ↔ q) := fun q hq => ⟨fun _ => hq, fun _ => rfl⟩
  have yes : ∀ q : Prop, ¬ q → (((1 : Int32) = 0) ↔ q) := fun q hq => ⟨fun z => absurd z (by decide), fun z => absurd z hq⟩
  unfold f_X4_isAhead f_X7_acrossOf f_X7_downOf
  rw [rd_ok hv (by omega), rd_ok hu (by omega), rd_ok hv (by omega), rd_ok hu (by omega), hV v hv, hV u hu]
  simp only [bd1_s]
  rw [md31 (by omega), md31 (by omega), dv31 (by omega), dv31 (by omega), ab31 _ (by omega), ab31 _ (by omega), nI_add, nI_add]
  have e1 : zD (v % 31) 15 + v / 31 = vLen v := rfl
  have e2 : zD (u % 31) 15 + u / 31 = vLen u := rfl
  have l1 : vLen v < 64 := by unfold vLen; omega
  have l2 : vLen u < 64 := by unfold vLen; omega
  rw [e1, e2]
  refine rt_if (fun c => ?_) (fun c => ?_)
  · rw [n_inj (by omega) (by omega)] at c
    refine rt_if (fun c2 => ?_) (fun c2 => ?_)
    · rw [n_inj (by omega) (by omega)] at c2
      refine rt_if (fun c3 => ?_) (fun c3 => ?_)
      · rw [n_le (by omega) (by omega)] at c3
        exact rt_some (no _ (by unfold ahW; omega))
      · rw [n_le (by omega) (by omega)] at c3
        exact rt_some (yes _ (by unfold ahW; omega))
    · rw [n_inj (by omega) (by omega)] at c2
      refine rt_if (fun c3 => ?_) (fun c3 => ?_)
      · rw [n_le (by omega) (by omega)] at c3
        exact rt_some (no _ (by unfold ahW; omega))
      · rw [n_le (by omega) (by omega)] at c3
        exact rt_some (yes _ (by unfold ahW; omega))
  · rw [n_inj (by omega) (by omega)] at c
    refine rt_if (fun c3 => ?_) (fun c3 => ?_)
    · rw [n_le (by omega) (by omega)] at c3
      exact rt_some (no _ (by unfold ahW; omega))
    · rw [n_le (by omega) (by omega)] at c3
      exact rt_some (yes _ (by unfold ahW; omega))
theorem ins_swap {T : Nat → Nat} {x j i : Nat} : insT T x j i = if i = j + 1 then T j else if i = j then x else insT T x (j + 1) i := by
  unfold insT
  by_cases e1 : i = j + 1
  · subst e1
    simp [show ¬ j + 1 < j by omega]
  · by_cases e2 : i = j
    · subst e2; simp
    · by_cases e3 : i < j
      · simp [e1, e2, e3, show i < j + 1 by omega]
      · simp [e1, e2, e3, show ¬ i < j + 1 by omega]
theorem c_set2 {K x : Nat} {V T : Nat → Nat} {cv : Nat → Int32} {k : _} {P : _} (hV : ∀ v, v < 496 → cv v = nI (V v)) (hb : ∀ v, V v ≤ 2137) (hK : K ≤ 8) (hx : x < 496) (hT : ∀ j, j < K → T j < 496) :
    ∀ (j fuel : Nat) (c : Nat → Int32), j ≤ K → j < fuel → (∀ i, i ≤ K → c i = nI (insT T x j i)) → (∀ i, j ≤ i → i < K → ahW V x (T i)) →
      (∀ (z : Int32) (c' : Nat → Int32) (p : Nat), p ≤ K → (∀ i, i ≤ K → c' i = nI (insT T x p i)) → (∀ i, p ≤ i → i < K → ahW V x (T i)) → (p = 0 ∨ ¬ ahW V x (T (p - 1))) → Rt (k z c') P) →
      Rt (f_X4_settle_L2 FU cv k fuel (nI j) c) P := by
  intro j
  induction j with
  | zero =>
    intro fuel c e1 e2 hc ha hk
    obtain ⟨f, rfl⟩ : ∃ f, fuel = f + 1 := ⟨fuel - 1, by omega⟩
    rw [f_X4_settle_L2]
    exact rt_t (by decide) (hk _ _ 0 (by omega) hc ha (Or.inl rfl))
  | succ j ih =>
    intro fuel c e1 e2 hc ha hk
    obtain ⟨f, rfl⟩ : ∃ f, fuel = f + 1 := ⟨fuel - 1, by omega⟩
    rw [f_X4_settle_L2]
    refine rt_f (by rw [show (0 : Int32) = nI 0 from rfl]; exact (by rw [n_le (by omega) (by omega)]; omega)) ?_
    have c1 : c (j + 1) = nI x := by rw [hc _ e1, ins_eq]
    have c0 : c j = nI (T j) := by rw [hc j (by omega), ins_lt (by omega : j < j + 1)]
    rw [show (1 : Int32) = nI 1 from rfl, pk_sub (by omega : 1 ≤ j + 1), show j + 1 - 1 = j by omega, rd_ok (by omega) (by omega), rd_ok (by omega) (by omega), c1, c0]
    refine rt_bd1 (c_ahead hV hb hx (hT j (by omega))) ?_
    intro r hr
    refine rt_if (fun q => ?_) (fun q => ?_)
    · exact hk _ _ (j + 1) e1 hc ha (Or.inr (by rw [show j + 1 - 1 = j by omega]; exact hr.mp q))
    · rw [rd_ok (by omega) (by omega), rd_ok (by omega) (by omega), c1, c0, wr_ok (by omega) (by omega), wr_ok (by omega) (by omega)]
      have em : nI (j + 1) + -nI 1 = nI j := by
        have := pk_sub (a := j + 1) (b := 1) (by omega)
        rw [show j + 1 - 1 = j by omega] at this
        rw [← this, Int32.sub_eq_add_neg]
      rw [em]
      have hq : ahW V x (T j) := Classical.byContradiction (fun z => q (hr.mpr z))
      refine ih f _ (by omega) (by omega) ?_ ?_ hk
      · intro i hi
        rw [ins_swap]
        by_cases e3 : i = j + 1
        · subst e3; simp [upd]
        · by_cases e4 : i = j
          · subst e4; simp [upd]
          · simp only [upd, e3, e4, if_false]; exact hc i hi
      · intro i h1 h2
        by_cases e3 : i = j
        · rw [e3]; exact hq
        · exact ha i (by omega) h2
theorem c_ch7 {Lv : Nat} {V : Nat → Nat} {cv : Nat → Int32} {k : _} {P : _} (hV : ∀ v, v < 496 → cv v = nI (V v)) (hb : ∀ v, V v ≤ 2137) (hL : Lv ≤ 99) :
    ∀ (d v fuel K : Nat) (T : Nat → Nat) (c : Nat → Int32), v + d = 496 → d < fuel → Top 8 (ahW V) (fun v => Lv ≤ V v) v K T → (∀ j, j < K → c j = nI (T j)) →
      (∀ (z : Int32) (c : Nat → Int32) (K : Nat) (T : Nat → Nat), Top 8 (ahW V) (fun v => Lv ≤ V v) 496 K T → (∀ j, j < K → c j = nI (T j)) → Rt (k z c (nI K)) P) →
      Rt (f_X4_choose_L7 FU (nI Lv) cv k fuel (nI v) c (nI K)) P := by
  intro d
  induction d with
  | zero =>
    intro v fuel K T c e1 e2 ht hc hk
    obtain ⟨f, rfl⟩ : ∃ f, fuel = f + 1 := ⟨fuel - 1, by omega⟩
    have ev : v = 496 := by omega
    subst ev
    rw [f_X4_choose_L7]
    exact rt_t (by rw [show (496 : Int32) = nI 496 from rfl]; exact (by rw [n_le (by omega) (by omega)]; omega)) (hk _ _ _ _ ht hc)
  | succ d ih =>
    intro v fuel K T c e1 e2 ht hc hk
    obtain ⟨f, rfl⟩ : ∃ f, fuel = f + 1 := ⟨fuel - 1, by omega⟩
    have hvb := hb v
    have hK := ht.1
    rw [f_X4_choose_L7]
    refine rt_f (by rw [show (496 : Int32) = nI 496 from rfl]; exact (by rw [n_le (by omega) (by omega)]; omega)) ?_
    rw [rd_ok (by omega) (by omega), hV v (by omega), nI_1]
    refine rt_if (fun q => ?_) (fun q => ?_)
    · rw [n_lt (by omega) (by omega)] at q
      exact ih (v + 1) f K T c (by omega) (by omega) (top_no ht (by omega)) hc hk
    · rw [n_lt (by omega) (by omega)] at q
      rw [wr_ok (by omega) (by omega), nI_1]
      refine rt_bd1 (Z := fun c' => ∃ p, p ≤ K ∧ (∀ i, i ≤ K → c' i = nI (insT T v p i)) ∧ (∀ i, p ≤ i → i < K → ahW V v (T i)) ∧ (p = 0 ∨ ¬ ahW V v (T (p - 1)))) ?_ ?_
      · unfold f_X4_settle
        refine c_set2 (T := T) (x := v) hV hb hK (by omega) (fun j hj => by have := (ht.2.1 j hj).1; omega) K FU _ (by omega) (by unfold FU; omega) ?_ (fun i h1 h2 => by omega) ?_
        · intro i hi
          by_cases e : i = K
          · subst e; rw [ins_eq]; simp [upd]
          · rw [ins_lt (by omega)]; simp [upd, e, hc i (by omega)]
        · intro z c' p h1 h2 h3 h4
          exact rt_some ⟨p, h1, h2, h3, h4⟩
      · intro c' hz
        obtain ⟨p, h1, h2, h3, h4⟩ := hz
        rw [show (if 8 < nI (K + 1) then 8 else nI (K + 1)) = nI (min (K + 1) 8) from if_min (a := 8) (by omega) (by omega)]
        have hb2 : ∀ j, j < p → j < K → ahW V (T j) v := by
          have hl : 0 < p → ahW V (T (p - 1)) v := by
            intro hp
            rcases h4 with z | z
            · omega
            · rcases (ahW_sto V).2.2 (T (p - 1)) v (by have := (ht.2.1 (p - 1) (by omega)).1; omega) with y | y
              · exact y
              · exact absurd y z
          intro j hj hjk
          by_cases e : j = p - 1
          · rw [e]; exact hl (by omega)
          · exact (ahW_sto V).2.1 _ _ _ (ht.2.2.1 j (p - 1) (by omega) (by omega)) (hl (by omega))
        refine ih (v + 1) f (min (K + 1) 8) (insT T v p) c' (by omega) (by omega) (top_ins (ahW_sto V) ht (by omega : Lv ≤ V v) h1 hb2 h3) (fun j hj => h2 j (by omega)) hk
theorem c_ch65 {K : Nat} {T : Nat → Nat} {cw : Nat → Int32} {k : _} {P : _} (hK : K ≤ 8) (hT : ∀ j, j < K → T j < 496) (hI : ∀ i j, i < j → j < K → T i ≠ T j) (hc : ∀ j, j < K → cw j = nI (T j)) :
    ∀ (d j fuel : Nat) (cn : Nat → Int32), j + d = K → d < fuel → (∀ i, i < j → cn (T i) = nI i) → (∀ v, v < 496 → (∀ i, i < j → T i ≠ v) → cn v = -9) →
      (∀ (z : Int32) (cn : Nat → Int32), (∀ i, i < K → cn (T i) = nI i) → (∀ v, v < 496 → (∀ i, i < K → T i ≠ v) → cn v = -9) → Rt (k z cn) P) →
      Rt (f_X4_choose_L65 FU cw (nI K) k fuel (nI j) cn) P := by
  intro d
  induction d with
  | zero =>
    intro j fuel cn e1 e2 h1 h2 hk
    obtain ⟨f, rfl⟩ : ∃ f, fuel = f + 1 := ⟨fuel - 1, by omega⟩
    have ej : j = K := by omega
    subst ej
    rw [f_X4_choose_L65]
    exact rt_t (by rw [n_le (by omega) (by omega)]; omega) (hk _ _ h1 h2)
  | succ d ih =>
    intro j fuel cn e1 e2 h1 h2 hk
    obtain ⟨f, rfl⟩ : ∃ f, fuel = f + 1 := ⟨fuel - 1, by omega⟩
    rw [f_X4_choose_L65]
    refine rt_f (by rw [n_le (by omega) (by omega)]; omega) ?_
    rw [rd_ok (by omega) (by omega), hc j (by omega), wr_ok (hT j (by omega)) (by omega), nI_1]
    refine ih (j + 1) f _ (by omega) (by omega) ?_ ?_ hk
    · intro i hi
      by_cases e : i = j
      · subst e; simp [upd]
      · have ne : T i ≠ T j := hI i j (by omega) (by omega)
        simp only [upd, ne, if_false]; exact h1 i (by omega)
    · intro v hv hn
      have ne : v ≠ T j := fun z => hn j (by omega) z.symm
      simp only [upd, ne, if_false]
      exact h2 v hv (fun i hi => hn i (by omega))
theorem top_ne {cap n : Nat} {ah : Nat → Nat → Prop} {C : Nat → Prop} {K : Nat} {T : Nat → Nat} (hs : STO ah) (h : Top cap ah C n K T) : ∀ i j, i < j → j < K → T i ≠ T j := by
  intro i j h1 h2 e
  have := h.2.2.1 i j h1 h2
  rw [e] at this
  exact hs.1 _ this
def SHt (w h : Nat) (g st : Nat → Nat) (K : Nat) (T : Nat → Nat) : Prop := Top 8 (ahW (zV w h g st)) (fun v => st 6 ≤ zV w h g st v) 496 K T
def CSh (w h : Nat) (g st : Nat → Nat) (c1 c2 : Nat → Int32) (np : Int32) (cpw cv cw : Nat → Int32) (cn : Int32) (nw : Nat → Int32) : Prop :=
  CPs w h st (prL w h g st) c1 c2 np cpw cv ∧ ∃ (K : Nat) (T : Nat → Nat), SHt w h g st K T ∧ cn = nI K ∧ (∀ j, j < K → cw j = nI (T j)) ∧ (∀ i, i < K → nw (T i) = nI i) ∧ (∀ v, v < 496 → (∀ i, i < K → T i ≠ v) → nw v = -9)
theorem c_gather4 {w h : Nat} {g st o : Nat → Nat} {cs co cr ck cto c1 c2 cpw cv cw nw : Nat → Int32} {np cn : Int32} (hS : RepS cs st) (ho : OKs st) (hw : w ≤ 16) (hh : h ≤ 16) (hO : OS w h g st o co cr ck cto) :
    Rt (f_X4_gather FU cs co cr ck cto (nI (qA w st)) (nI (qA h st)) c1 c2 np cpw cv cw cn nw) (fun q => CSh w h g st q.1 q.2.1 q.2.2.1 q.2.2.2.1 q.2.2.2.2.1 q.2.2.2.2.2.1 q.2.2.2.2.2.2.1 q.2.2.2.2.2.2.2) := by
  have hls := ho.least
  have hB := qA_15 ho hh
  unfold f_X4_gather
  refine c_ga7 256 0 FU cpw (by omega) (by unfold FU; omega) (fun j hj => by omega) ?_
  intro z1 cpw' hpw
  refine c_ga29 496 0 FU cv nw (by omega) (by unfold FU; omega) (fun j hj => by omega) ?_
  intro z2 cv' nw' hv
  refine c_ga59 (g := g) hS ho hw hh hO (qA h st) 0 FU c1 c2 0 cpw' cv' (by omega) (by unfold FU; omega) ⟨fun k hk => by simp [prO] at hk, fun k hk => by simp [prO] at hk, rfl, ?_, ?_⟩ ?_
  · intro s hs
    rw [hpw _ (qP_256 ho hw hh hs)]
    simp [pwL, prO]; rfl
  · intro a d ha hd
    rw [(hv _ (by omega)).1]
    simp [vtL, prO]; rfl
  · intro z3 c1 c2 np cpw cv hp
    rw [show (6 : Int32) = nI 6 from rfl, rd_ok (by omega) (by omega), hS 6 (by omega)]
    have hV : ∀ v, v < 496 → cv v = nI (zV w h g st v) := fun v hv => rvc_v hp.2.2.2.2 hv
    have hb := zV_le (w := w) (h := h) (g := g) ho hw hh
    refine rt_bd3 (Z := fun (q : (Nat → Int32) × Int32 × (Nat → Int32)) => ∃ (K : Nat) (T : Nat → Nat), SHt w h g st K T ∧ q.2.1 = nI K ∧ (∀ j, j < K → q.1 j = nI (T j)) ∧ (∀ i, i < K → q.2.2 (T i) = nI i) ∧ (∀ v, v < 496 → (∀ i, i < K → T i ≠ v) → q.2.2 v = -9)) ?_ ?_
    · unfold f_X4_choose
      refine c_ch7 (V := zV w h g st) hV hb (by omega : st 6 ≤ 99) 496 0 FU 0 (fun _ => 0) cw (by omega) (by unfold FU; omega) ⟨by omega, fun j hj => by omega, fun i j _ hj => by omega, fun u hu => by omega⟩ (fun j hj => by omega) ?_
      intro z c K T ht hc
      refine c_ch65 (T := T) ht.1 (fun j hj => (ht.2.1 j hj).1) (top_ne (ahW_sto _) ht) hc K 0 FU nw' (by omega) (by have := ht.1; unfold FU; omega) (fun i hi => by omega) (fun v hv2 _ => (hv v hv2).2) ?_
      intro z2 cn' h1 h2
      exact rt_some ⟨K, T, ht, rfl, hc, h1, h2⟩
    · intro a1 a2 a3 hz
      exact rt_some ⟨hp, hz⟩
