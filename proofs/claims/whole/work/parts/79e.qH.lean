/-! what is seen -/
def zCp (w h : Nat) (g st : Nat → Nat) (r : Nat) : Nat → Prop := CpS (zv w h g st r) (zGr w h g st r)
def zSe (w h : Nat) (g st : Nat → Nat) (how r q : Nat) : Prop := (how ≠ 1 ∧ zGr w h g st r q) ∨ (how ≠ 0 ∧ zCp w h g st r q)
def zSn (w h : Nat) (g st : Nat → Nat) (how q : Nat) : Prop := ∃ k, k < zFn w h g st ∧ zSe w h g st how (zTf w h g st k) q
theorem zSn_tr {w h : Nat} {g st : Nat → Nat} (hf : FDc w h g st) {how q : Nat} : zSn w h g st how q ↔ ∃ i, i < zFn w h g st ∧ zSe w h g st how (zTr w h g st i) q := by
  constructor
  · rintro ⟨k, hk, z⟩
    obtain ⟨j, hj, e⟩ := (hf.2.1.2.1 k hk).2
    exact ⟨j, hj, by rw [e]; exact z⟩
  · rintro ⟨i, hi, z⟩
    obtain ⟨k, hk, e⟩ := hf.2.2 i hi
    exact ⟨k, hk, by rw [e]; exact z⟩
theorem zSn_in {w h : Nat} {g st : Nat → Nat} (ho : OKs st) (hw : w ≤ 16) (hh : h ≤ 16) (hf : FDc w h g st) {how q : Nat} (hz : zSn w h g st how q) : q % 16 < w ∧ q / 16 < h := by
  obtain ⟨k, hk, z | z⟩ := hz
  · have := zGr_in ho hw hh (hf.f hk) z.2
    exact ⟨this.1, this.2.1⟩
  · obtain ⟨_, p, h1, h2, h3⟩ := z
    have := (zGr_in ho hw hh (hf.f hk) h2).2.2
    unfold cpI at this
    unfold cpP at h3
    omega
theorem b_or3 {a b c : Int32} {i : Nat} : bt ((a ||| b) ||| c) i = true ↔ (bt a i = true ∨ bt b i = true) ∨ bt c i = true := by
  rw [b_or, b_or, Bool.or_eq_true, Bool.or_eq_true]
theorem c_columnsOf {w h y how : Nat} {g st : Nat → Nat} {c_list : Nat → Nat} {c_fcount : Int32} {c_regions : Nat → Int32} {c_frows : Nat → Nat → Int32} {c_fshift : Nat → Int32} {c_fdx : Nat → Int32} {c_fdy : Nat → Int32} {c_fleastPlace : Nat → Int32} {c_fpairs : Nat → Int32} {c_foffset : Nat → Int32} {c_fplacesFirst : Nat → Int32} {c_fplaces : Nat → Int32} (hw : w ≤ 16) (hh : h ≤ 16) (ho : OKs st) (hs : SHc w h g st) (hF : CFd w h g st c_list c_fcount c_regions c_frows c_fshift c_fdx c_fdy c_fleastPlace c_fpairs c_foffset c_fplacesFirst c_fplaces) (hl : LPm c_list) (hy : y < 16) (hhow : how ≤ 2) :
    Rt (f_X1_columnsOf FU c_list c_fcount c_frows c_fdx c_fdy (nI y) (nI how)) (fun v => ∀ i, i < 32 → (bt v i = true ↔ i < 16 ∧ zSn w h g st how (16 * y + i))) := by
  obtain ⟨hf, q1, q2, q3⟩ := hF
  have h24 := hf.n24
  subst q1
  have go : ∀ (d k fuel : Nat) (v : Int32), k + d = zFn w h g st → d < fuel → (∀ i, i < 32 → (bt v i = true ↔ i < 16 ∧ ∃ k', k' < k ∧ zSe w h g st how (zTf w h g st k') (16 * y + i))) → Rt (f_X1_columnsOf_L5 FU (nI y) (nI how) c_list (nI (zFn w h g st)) c_frows c_fdx c_fdy (fun (x3_1 : Int32) (x4_2 : Int32) => some x3_1) fuel v (nI k)) (fun v => ∀ i, i < 32 → (bt v i = true ↔ i < 16 ∧ zSn w h g st how (16 * y + i))) := by
    intro d
    induction d with
    | zero =>
      intro k fuel v e1 e2 hv
      obtain ⟨f, rfl⟩ : ∃ f, fuel = f + 1 := ⟨fuel - 1, by omega⟩
      have ek : k = zFn w h g st := by omega
      subst ek
      rw [f_X1_columnsOf_L5]
      exact rt_t (by rw [n_le (by omega) (by omega)]; omega) (rt_some hv)
    | succ d ih =>
      intro k fuel v e1 e2 hv
      obtain ⟨f, rfl⟩ : ∃ f, fuel = f + 1 := ⟨fuel - 1, by omega⟩
      have hk : k < zFn w h g st := by omega
      have hr := hf.f hk
      have hlt := hl.1 k (by omega)
      obtain ⟨g1, ⟨f1, f2, f3, f4, f5⟩, g3, g4, g5⟩ := q2 k hk
      have hin : ∀ q, q < 256 → zGr w h g st (zTf w h g st k) q → cpI w h (zv w h g st (zTf w h g st k)) q := fun q _ hq => (zGr_in ho hw hh hr hq).2.2
      rw [f_X1_columnsOf_L5]
      refine rt_f (by rw [n_le (by omega) (by omega)]; omega) ?_
      rw [nI_1]
      refine rt_j (fun j => ∀ t : Int32, (∀ i, i < 32 → (bt t i = true ↔ i < 16 ∧ how ≠ 1 ∧ zGr w h g st (zTf w h g st k) (16 * y + i))) → Rt (j t) (fun v => ∀ i, i < 32 → (bt v i = true ↔ i < 16 ∧ zSn w h g st how (16 * y + i)))) ?_ ?_
      · intro t ht
        refine rt_j (fun j => ∀ u : Int32, (∀ i, i < 32 → (bt u i = true ↔ i < 16 ∧ how ≠ 0 ∧ zCp w h g st (zTf w h g st k) (16 * y + i))) → Rt (j u) (fun v => ∀ i, i < 32 → (bt v i = true ↔ i < 16 ∧ zSn w h g st how (16 * y + i)))) ?_ ?_
        · intro u hu
          refine ih (k + 1) f _ (by omega) (by omega) (fun i hi => ?_)
          rw [b_or3, hv i hi, ht i hi, hu i hi]
          constructor
          · rintro ((⟨z1, k', z2, z3⟩ | ⟨z1, z2⟩) | ⟨z1, z2⟩)
            · exact ⟨z1, k', by omega, z3⟩
            · exact ⟨z1, k, by omega, Or.inl z2⟩
            · exact ⟨z1, k, by omega, Or.inr z2⟩
          · rintro ⟨z1, k', z2, z3⟩
            by_cases e : k' = k
            · subst e
              rcases z3 with z | z
              · exact Or.inl (Or.inr ⟨z1, z⟩)
              · exact Or.inr ⟨z1, z⟩
            · exact Or.inl (Or.inl ⟨z1, k', by omega, z3⟩)
        · intro j hj
          refine rt_if (fun c => ?_) (fun c => ?_)
          · rw [show (0 : Int32) = nI 0 from rfl, n_inj (by omega) (by omega)] at c
            exact hj 0 (fun i hi => by rw [b_0]; exact ⟨fun z => absurd z (by decide), fun z => absurd c z.2.1⟩)
          · rw [show (0 : Int32) = nI 0 from rfl, n_inj (by omega) (by omega)] at c
            rw [rdn_ok (by omega) (by omega), lt25_ok hlt]
            refine rt_bd1 (c_copyRowOf hw hh (zv_496 hs hr) f2 f3 g1 hin hy) ?_
            intro z hz
            exact hj z (fun i hi => by rw [hz i hi]; exact ⟨fun y => ⟨y.1, c, y.2⟩, fun y => ⟨y.1, y.2.2⟩⟩)
      · intro j hj
        refine rt_if (fun c => ?_) (fun c => ?_)
        · rw [show (1 : Int32) = nI 1 from rfl, n_inj (by omega) (by omega)] at c
          exact hj 0 (fun i hi => by rw [b_0]; exact ⟨fun z => absurd z (by decide), fun z => absurd c z.2.1⟩)
        · rw [show (1 : Int32) = nI 1 from rfl, n_inj (by omega) (by omega)] at c
          rw [rdn_ok (by omega) (by omega), lt25_ok hlt, c_rowOf hy, bd1_s]
          exact hj _ (fun i hi => by rw [g1 y hy i hi]; exact ⟨fun y => ⟨y.1, c, y.2⟩, fun y => ⟨y.1, y.2.2⟩⟩)
  unfold f_X1_columnsOf
  refine go (zFn w h g st) 0 FU 0 (by omega) (by unfold FU; omega) (fun i hi => ?_)
  rw [b_0]
  exact ⟨fun z => absurd z (by decide), fun ⟨_, k, z, _⟩ => by omega⟩
/-! the reference -/
theorem m_isSeen {w h a b how : Nat} {g st : Nat → Nat} {cx cy crs cra crp crf crof cof cbg chd cin cnum : Nat → Int32} {nr nf : Int32} (hw : w ≤ 16) (hh : h ≤ 16) (hw1 : 1 ≤ w) (hh1 : 1 ≤ h) (ho : OKs st) (hs : SHc w h g st) (hX : RX (zT w h g st) (zKn w h g st) cx cy) (hR : MRs w h g st cra nr crs crp crf) (hF : MFd w h g st nf crof cof cbg chd cin cnum) (ha : a < w) (hb : b < h) (hhow : how ≤ 2) :
    Rt (f_X8_isSeen FU (nI w) (nI h) cx cy crs nf crof cin (nI a) (nI b) (nI how)) (fun v => v = 0 ↔ ¬ zSn w h g st how (16 * b + a)) := by
  obtain ⟨hf, n1, n2, n3⟩ := hF
  have h24 := hf.n24
  subst n1
  have yes : zSn w h g st how (16 * b + a) → Rt (some (1 : Int32)) (fun v => v = 0 ↔ ¬ zSn w h g st how (16 * b + a)) := fun z => rt_some ⟨fun y => absurd y (by decide), fun y => absurd z y⟩
  have go : ∀ (d f0 fuel : Nat), f0 + d = zFn w h g st → d < fuel → (∀ i, i < f0 → ¬ zSe w h g st how (zTr w h g st i) (16 * b + a)) → Rt (f_X8_isSeen_L3 FU (nI a) (nI b) (nI how) (nI w) (nI h) cx cy crs (nI (zFn w h g st)) crof cin (fun (x4_1 : Int32) => some 0) fuel (nI f0)) (fun v => v = 0 ↔ ¬ zSn w h g st how (16 * b + a)) := by
    intro d
    induction d with
    | zero =>
      intro f0 fuel e1 e2 hn
      obtain ⟨f, rfl⟩ : ∃ f, fuel = f + 1 := ⟨fuel - 1, by omega⟩
      rw [f_X8_isSeen_L3]
      refine rt_t (by rw [n_le (by omega) (by omega)]; omega) (rt_some ⟨fun _ z => ?_, fun _ => rfl⟩)
      obtain ⟨i, hi, y⟩ := (zSn_tr hf).mp z
      exact hn i (by omega) y
    | succ d ih =>
      intro f0 fuel e1 e2 hn
      obtain ⟨f, rfl⟩ : ∃ f, fuel = f + 1 := ⟨fuel - 1, by omega⟩
      have hf0 : f0 < zFn w h g st := by omega
      obtain ⟨m1, m2, m3, m4, m5⟩ := n2 f0 hf0
      have hr : zTr w h g st f0 < (zRL w h g st).length := (hf.1.2.1 f0 hf0).1
      have hm : MF w h g st cx cy crs crof f0 (zTr w h g st f0) := ⟨by omega, hr, hs, hX, hR.2.1, m1⟩
      have hin : ∀ q, q < 256 → zGr w h g st (zTr w h g st f0) q → cpI w h (zv w h g st (zTr w h g st f0)) q := fun q _ hq => (zGr_in ho hw hh hr hq).2.2
      have put1 : zSe w h g st how (zTr w h g st f0) (16 * b + a) → zSn w h g st how (16 * b + a) := fun z => (zSn_tr hf).mpr ⟨f0, hf0, z⟩
      have nxt : ¬ zSe w h g st how (zTr w h g st f0) (16 * b + a) → Rt (f_X8_isSeen_L3 FU (nI a) (nI b) (nI how) (nI w) (nI h) cx cy crs (nI (zFn w h g st)) crof cin (fun (x4_1 : Int32) => some 0) f (nI f0 + 1)) (fun v => v = 0 ↔ ¬ zSn w h g st how (16 * b + a)) := by
        intro z
        rw [nI_1]
        refine ih (f0 + 1) f (by omega) (by omega) (fun i hi => ?_)
        by_cases e : i = f0
        · subst e; exact z
        · exact hn i (by omega)
      rw [f_X8_isSeen_L3]
      refine rt_f (by rw [n_le (by omega) (by omega)]; omega) ?_
      refine rt_j (fun j => ¬ (how ≠ 1 ∧ zGr w h g st (zTr w h g st f0) (16 * b + a)) → Rt j (fun v => v = 0 ↔ ¬ zSn w h g st how (16 * b + a))) ?_ ?_
      · intro hng
        refine rt_if (fun c => ?_) (fun c => ?_)
        · rw [show (0 : Int32) = nI 0 from rfl, n_inj (by omega) (by omega)] at c
          exact nxt (fun z => z.elim hng (fun y => y.1 c))
        · rw [show (0 : Int32) = nI 0 from rfl, n_inj (by omega) (by omega)] at c
          refine rt_bd1 (m_isCopy hw hh hw1 hh1 hm m5 hin (by omega) (by omega)) ?_
          intro t ht
          refine rt_if (fun c2 => nxt (fun z => z.elim hng (fun y => ht.mp c2 y.2))) (fun c2 => ?_)
          exact yes (put1 (Or.inr ⟨c, Classical.byContradiction (fun z => c2 (ht.mpr z))⟩))
      · intro j hj
        refine rt_if (fun c => ?_) (fun c => ?_)
        · rw [show (1 : Int32) = nI 1 from rfl, n_inj (by omega) (by omega)] at c
          exact hj (fun z => z.1 c)
        · rw [show (1 : Int32) = nI 1 from rfl, n_inj (by omega) (by omega)] at c
          obtain ⟨u, eu, hu, _⟩ := m_held_in (FU := FU) (x := nI a) (y := nI b) (a := a) (b := b) hw hh (by omega : f0 < 24) m5 ⟨ha, hb, rfl, rfl⟩
          rw [eu, bd1_s]
          refine rt_if (fun c2 => hj (fun z => hu.mp c2 z.2)) (fun c2 => ?_)
          exact yes (put1 (Or.inl ⟨c, Classical.byContradiction (fun z => c2 (hu.mpr z))⟩))
  unfold f_X8_isSeen
  exact go (zFn w h g st) 0 FU (by omega) (by unfold FU; omega) (fun i hi => by omega)
theorem m_se37 {w h b how : Nat} {g st : Nat → Nat} {cx cy crs cra crp crf crof cof cbg chd cin cnum : Nat → Int32} {nr nf : Int32} {kk : _} {P : _} (hw : w ≤ 16) (hh : h ≤ 16) (hw1 : 1 ≤ w) (hh1 : 1 ≤ h) (ho : OKs st) (hs : SHc w h g st) (hX : RX (zT w h g st) (zKn w h g st) cx cy) (hR : MRs w h g st cra nr crs crp crf) (hF : MFd w h g st nf crof cof cbg chd cin cnum) (hb : b < h) (hhow : how ≤ 2) :
    ∀ (d x fuel : Nat) (v : Int32), x + d = w → d < fuel → (∀ i, i < 32 → (bt v i = true ↔ i < x ∧ zSn w h g st how (16 * b + i))) → (∀ (v z : Int32), (∀ i, i < 32 → (bt v i = true ↔ i < w ∧ zSn w h g st how (16 * b + i))) → Rt (kk v z) P) → Rt (f_X8_seen_L37 FU (nI b) (nI how) (nI w) (nI h) cx cy crs nf crof cin kk fuel v (nI x)) P := by
  intro d
  induction d with
  | zero =>
    intro x fuel v e1 e2 hv hk
    obtain ⟨f, rfl⟩ : ∃ f, fuel = f + 1 := ⟨fuel - 1, by omega⟩
    have ex : x = w := by omega
    subst ex
    rw [f_X8_seen_L37]
    exact rt_t (by rw [n_le (by omega) (by omega)]; omega) (hk _ _ hv)
  | succ d ih =>
    intro x fuel v e1 e2 hv hk
    obtain ⟨f, rfl⟩ : ∃ f, fuel = f + 1 := ⟨fuel - 1, by omega⟩
    rw [f_X8_seen_L37]
    refine rt_f (by rw [n_le (by omega) (by omega)]; omega) ?_
    refine rt_bd1 (m_isSeen hw hh hw1 hh1 ho hs hX hR hF (by omega : x < w) hb hhow) ?_
    intro t ht
    rw [nI_1]
    refine rt_jn ?_
    dsimp only
    refine rt_if (fun c => ?_) (fun c => ?_)
    · refine ih (x + 1) f _ (by omega) (by omega) (fun i hi => ?_) hk
      rw [b_or, Bool.or_eq_true, b_0, hv i hi]
      constructor
      · rintro (z | z)
        · exact ⟨by omega, z.2⟩
        · exact absurd z (by decide)
      · rintro ⟨z1, z2⟩
        by_cases e : i = x
        · subst e; exact absurd z2 (ht.mp c)
        · exact Or.inl ⟨by omega, z2⟩
    · have hz : zSn w h g st how (16 * b + x) := Classical.byContradiction (fun z => c (ht.mpr z))
      refine ih (x + 1) f _ (by omega) (by omega) (fun i hi => ?_) hk
      rw [b_or, Bool.or_eq_true, b_one (by omega) hi, hv i hi, decide_eq_true_eq]
      constructor
      · rintro (z | z)
        · exact ⟨by omega, z.2⟩
        · subst z; exact ⟨by omega, hz⟩
      · rintro ⟨z1, z2⟩
        by_cases e : i = x
        · exact Or.inr e
        · exact Or.inl ⟨by omega, z2⟩
theorem hw0 {w : Nat} (h1 : 1 ≤ w) : 0 < w := h1
theorem j_seen {w h rc om : Nat} {g st : Nat → Nat} {c_greys c_settings m_grey m_setting : Nat → Int32} {c_reached : Int32} {c_order : Nat → Int32} {c_merged : Nat → Int32} {c_least : Nat → Int32} {c_greatest : Nat → Int32} {c_role : Nat → Int32} {c_head : Nat → Int64} {c_tail : Nat → Int64} {c_rank : Nat → Int32} {c_kindFrom : Nat → Int32} {c_kindTo : Nat → Int32} {c_side : Int32} {c_across : Int32} {c_down : Int32} {c_count : Int32} {c_flats : Int32} {c_crowded : Int32} {c_kinds : Int32} {c_first : Nat → Int32} {c_second : Nat → Int32} {c_pairs : Int32} {c_pairsWith : Nat → Int32} {c_voted : Nat → Int32} {c_ways : Nat → Int32} {c_shcount : Int32} {c_numberOfWay : Nat → Int32} {c_list : Nat → Nat} {c_fcount : Int32} {c_regions : Nat → Int32} {c_left : Nat → Nat → Int32} {c_open : Nat → Int32} {c_frows : Nat → Nat → Int32} {c_fshift : Nat → Int32} {c_fdx : Nat → Int32} {c_fdy : Nat → Int32} {c_fleastPlace : Nat → Int32} {c_fpairs : Nat → Int32} {c_foffset : Nat → Int32} {c_fplacesFirst : Nat → Int32} {c_fplaces : Nat → Int32} {m_squares : Int32} {m_square : Nat → Int32} {m_dark : Nat → Int32} {m_light : Nat → Int32} {m_like : Nat → Int32} {m_isCrowded : Nat → Int32} {m_pairs : Int32} {m_first : Nat → Int32} {m_second : Nat → Int32} {m_votes : Nat → Int32} {m_shifts : Int32} {m_shiftX : Nat → Int32} {m_shiftY : Nat → Int32} {m_regionAt : Nat → Int32} {m_regions : Int32} {m_regionShift : Nat → Int32} {m_regionPairs : Nat → Int32} {m_regionFirst : Nat → Int32} {m_findings : Int32} {m_regionOf : Nat → Int32} {m_offset : Nat → Int32} {m_begun : Nat → Int32} {m_held : Nat → Int32} {m_isIn : Nat → Int32} {m_numbered : Nat → Int32} (hC : Cor w h g st c_greys c_settings) (hD : Cor w h g st m_grey m_setting) (hS : CSv w h g st rc c_reached c_order c_merged c_least c_greatest c_role c_head c_tail c_rank c_kindFrom c_kindTo c_side c_across c_down c_count c_flats c_crowded c_kinds c_first c_second c_pairs c_pairsWith c_voted c_ways c_shcount c_numberOfWay c_list c_fcount c_regions c_left c_open c_frows c_fshift c_fdx c_fdy c_fleastPlace c_fpairs c_foffset c_fplacesFirst c_fplaces) (hM : MAll w h g st om m_squares m_square m_dark m_light m_like m_isCrowded m_pairs m_first m_second m_votes m_shifts m_shiftX m_shiftY m_regionAt m_regions m_regionShift m_regionPairs m_regionFirst m_findings m_regionOf m_offset m_begun m_held m_isIn m_numbered) (x1 x2 : Int32) : ∃ (r : Int32) (rc' om' : Nat) (c_reached' : Int32) (c_order' : Nat → Int32) (c_merged' : Nat → Int32) (c_least' : Nat → Int32) (c_greatest' : Nat → Int32) (c_role' : Nat → Int32) (c_head' : Nat → Int64) (c_tail' : Nat → Int64) (c_rank' : Nat → Int32) (c_kindFrom' : Nat → Int32) (c_kindTo' : Nat → Int32) (c_side' : Int32) (c_across' : Int32) (c_down' : Int32) (c_count' : Int32) (c_flats' : Int32) (c_crowded' : Int32) (c_kinds' : Int32) (c_first' : Nat → Int32) (c_second' : Nat → Int32) (c_pairs' : Int32) (c_pairsWith' : Nat → Int32) (c_voted' : Nat → Int32) (c_ways' : Nat → Int32) (c_shcount' : Int32) (c_numberOfWay' : Nat → Int32) (c_list' : Nat → Nat) (c_fcount' : Int32) (c_regions' : Nat → Int32) (c_left' : Nat → Nat → Int32) (c_open' : Nat → Int32) (c_frows' : Nat → Nat → Int32) (c_fshift' : Nat → Int32) (c_fdx' : Nat → Int32) (c_fdy' : Nat → Int32) (c_fleastPlace' : Nat → Int32) (c_fpairs' : Nat → Int32) (c_foffset' : Nat → Int32) (c_fplacesFirst' : Nat → Int32) (c_fplaces' : Nat → Int32) (m_squares' : Int32) (m_square' : Nat → Int32) (m_dark' : Nat → Int32) (m_light' : Nat → Int32) (m_like' : Nat → Int32) (m_isCrowded' : Nat → Int32) (m_pairs' : Int32) (m_first' : Nat → Int32) (m_second' : Nat → Int32) (m_votes' : Nat → Int32) (m_shifts' : Int32) (m_shiftX' : Nat → Int32) (m_shiftY' : Nat → Int32) (m_regionAt' : Nat → Int32) (m_regions' : Int32) (m_regionShift' : Nat → Int32) (m_regionPairs' : Nat → Int32) (m_regionFirst' : Nat → Int32) (m_findings' : Int32) (m_regionOf' : Nat → Int32) (m_offset' : Nat → Int32) (m_begun' : Nat → Int32) (m_held' : Nat → Int32) (m_isIn' : Nat → Int32) (m_numbered' : Nat → Int32), f_X7_seen FU c_greys (nI w) (nI h) c_settings c_reached c_order c_merged c_least c_greatest c_role c_head c_tail c_rank c_kindFrom c_kindTo c_side c_across c_down c_count c_flats c_crowded c_kinds c_first c_second c_pairs c_pairsWith c_voted c_ways c_shcount c_numberOfWay c_list c_fcount c_regions c_left c_open c_frows c_fshift c_fdx c_fdy c_fleastPlace c_fpairs c_foffset c_fplacesFirst c_fplaces x1 x2 = some (r, c_reached', c_order', c_merged', c_least', c_greatest', c_role', c_head', c_tail', c_rank', c_kindFrom', c_kindTo', c_side', c_across', c_down', c_count', c_flats', c_crowded', c_kinds', c_first', c_second', c_pairs', c_pairsWith', c_voted', c_ways', c_shcount', c_numberOfWay', c_list', c_fcount', c_regions', c_left', c_open', c_frows', c_fshift', c_fdx', c_fdy', c_fleastPlace', c_fpairs', c_foffset', c_fplacesFirst', c_fplaces') ∧ f_X8_seen FU (nI om) (nI w) (nI h) m_grey m_setting m_squares m_square m_dark m_light m_like m_isCrowded m_pairs m_first m_second m_votes m_shifts m_shiftX m_shiftY m_regionAt m_regions m_regionShift m_regionPairs m_regionFirst m_findings m_regionOf m_offset m_begun m_held m_isIn m_numbered x1 x2 = some (r, nI om', m_squares', m_square', m_dark', m_light', m_like', m_isCrowded', m_pairs', m_first', m_second', m_votes', m_shifts', m_shiftX', m_shiftY', m_regionAt', m_regions', m_regionShift', m_regionPairs', m_regionFirst', m_findings', m_regionOf', m_offset', m_begun', m_held', m_isIn', m_numbered') ∧ CSv w h g st rc' c_reached' c_order' c_merged' c_least' c_greatest' c_role' c_head' c_tail' c_rank' c_kindFrom' c_kindTo' c_side' c_across' c_down' c_count' c_flats' c_crowded' c_kinds' c_first' c_second' c_pairs' c_pairsWith' c_voted' c_ways' c_shcount' c_numberOfWay' c_list' c_fcount' c_regions' c_left' c_open' c_frows' c_fshift' c_fdx' c_fdy' c_fleastPlace' c_fpairs' c_foffset' c_fplacesFirst' c_fplaces' ∧ MAll w h g st om' m_squares' m_square' m_dark' m_light' m_like' m_isCrowded' m_pairs' m_first' m_second' m_votes' m_shifts' m_shiftX' m_shiftY' m_regionAt' m_regions' m_regionShift' m_regionPairs' m_regionFirst' m_findings' m_regionOf' m_offset' m_begun' m_held' m_isIn' m_numbered'  := by
  obtain ⟨hs, hf⟩ := fdc hC.1
  have hw := hC.w
  have hh := hC.h
  have hw1 := hC.w1
  have hh1 := hC.h1
  by_cases c1 : ∃ i, i < h ∧ x1 = nI i
  · obtain ⟨b, hb, eb⟩ := c1
    have i7 : f_X2_has FU (nI w) (nI h) 0 x1 = some 1 := has_t (a := 0) (b := b) hw hh ⟨by omega, hb, rfl, eb⟩
    have i8 : f_X8_within FU x1 0 (nI h - 1) = some 1 := wi_cn (by omega) hb eb
    by_cases c2 : ∃ n, InR x2 0 2 n
    · obtain ⟨how, hn⟩ := c2
      have w2 : f_X8_within FU x2 0 2 = some 1 := wi_in (a := 0) (b := 2) (by omega) hn
      obtain ⟨rc', c_reached', c_order', c_merged', c_least', c_greatest', c_role', c_head', c_tail', c_rank', c_kindFrom', c_kindTo', c_side', c_across', c_down', c_count', c_flats', c_crowded', c_kinds', c_first', c_second', c_pairs', c_pairsWith', c_voted', c_ways', c_shcount', c_numberOfWay', c_list', c_fcount', c_regions', c_left', c_open', c_frows', c_fshift', c_fdx', c_fdy', c_fleastPlace', c_fpairs', c_foffset', c_fplacesFirst', c_fplaces', e7, r7, hS'⟩ := c_reach3 hC hS
      obtain ⟨om', m_squares', m_square', m_dark', m_light', m_like', m_isCrowded', m_pairs', m_first', m_second', m_votes', m_shifts', m_shiftX', m_shiftY', m_regionAt', m_regions', m_regionShift', m_regionPairs', m_regionFirst', m_findings', m_regionOf', m_offset', m_begun', m_held', m_isIn', m_numbered', e8, r8, hM'⟩ := ma5 hD hf hM
      have l4 := hM'.2.2.2.2.1 (by omega)
      obtain ⟨_, l31, l32⟩ := (hM'.2.2.2.1 (by omega)).can
      obtain ⟨v7, ev7, hv7⟩ := c_columnsOf hw hh hC.o hs (hS'.2.2.2.2.2 r7) hS'.2.2.1 (by omega : b < 16) hn.2.1
      have t8 : Rt (f_X8_seen FU (nI om) (nI w) (nI h) m_grey m_setting m_squares m_square m_dark m_light m_like m_isCrowded m_pairs m_first m_second m_votes m_shifts m_shiftX m_shiftY m_regionAt m_regions m_regionShift m_regionPairs m_regionFirst m_findings m_regionOf m_offset m_begun m_held m_isIn m_numbered x1 x2) (fun q => ∃ v, q = (v, nI om', m_squares', m_square', m_dark', m_light', m_like', m_isCrowded', m_pairs', m_first', m_second', m_votes', m_shifts', m_shiftX', m_shiftY', m_regionAt', m_regions', m_regionShift', m_regionPairs', m_regionFirst', m_findings', m_regionOf', m_offset', m_begun', m_held', m_isIn', m_numbered') ∧ (∀ i, i < 32 → (bt v i = true ↔ i < w ∧ zSn w h g st how (16 * b + i)))) := by
        unfold f_X8_seen
        rw [i8, bd1_s]
        refine rt_f (by decide) ?_
        rw [w2, bd1_s]
        refine rt_f (by decide) ?_
        rw [e8, bd26_s, eb, hn.2.2]
        refine m_se37 hw hh hw1 hh1 hC.o hs l32 l4 (hM'.2.2.2.2.2 r8) hb hn.2.1 w 0 FU 0 (by omega) (by unfold FU; omega) (fun i hi => ?_) ?_
        · rw [b_0]
          exact ⟨fun z => absurd z (by decide), fun z => by omega⟩
        · intro v z hv
          exact rt_some ⟨v, rfl, hv⟩
      obtain ⟨q, e, v8, eq, hv8⟩ := t8
      subst eq
      have ev : v7 = v8 := by
        apply b_ext
        intro i hi
        rw [Bool.eq_iff_iff, hv7 i hi, hv8 i hi]
        constructor
        · rintro ⟨z1, z2⟩
          have := (zSn_in hC.o hw hh hf z2).1
          exact ⟨by omega, z2⟩
        · rintro ⟨z1, z2⟩
          exact ⟨by omega, z2⟩
      refine ⟨v8, rc', om', _, _, _, _, _, _, _, _, _, _, _, _, _, _, _, _, _, _, _, _, _, _, _, _, _, _, _, _, _, _, _, _, _, _, _, _, _, _, _, _, _, _, _, _, _, _, _, _, _, _, _, _, _, _, _, _, _, _, _, _, _, _, _, _, _, ?_, e, hS', hM'⟩
      unfold f_X7_seen
      rw [i7, bd1_s, if_neg (by decide), wi_eq, w2, bd1_s, if_neg (by decide), e7, bd40_s, eb, hn.2.2, ev7, bd1_s, ev]
    · have w2 : f_X8_within FU x2 0 2 = some 0 := wi_out (a := 0) (b := 2) (by omega) (by omega) (fun n hn => c2 ⟨n, hn⟩)
      refine ⟨-2, rc, om, _, _, _, _, _, _, _, _, _, _, _, _, _, _, _, _, _, _, _, _, _, _, _, _, _, _, _, _, _, _, _, _, _, _, _, _, _, _, _, _, _, _, _, _, _, _, _, _, _, _, _, _, _, _, _, _, _, _, _, _, _, _, _, _, _, ?_, ?_, hS, hM⟩
      · unfold f_X7_seen
        rw [i7, bd1_s, if_neg (by decide), wi_eq, w2, bd1_s, if_pos rfl]
      · unfold f_X8_seen
        rw [i8, bd1_s, if_neg (by decide), w2, bd1_s, if_pos rfl]
  · have hn : ∀ i, i < h → x1 ≠ nI i := fun i hi z => c1 ⟨i, hi, z⟩
    refine ⟨-1, rc, om, _, _, _, _, _, _, _, _, _, _, _, _, _, _, _, _, _, _, _, _, _, _, _, _, _, _, _, _, _, _, _, _, _, _, _, _, _, _, _, _, _, _, _, _, _, _, _, _, _, _, _, _, _, _, _, _, _, _, _, _, _, _, _, _, _, ?_, ?_, hS, hM⟩
    · unfold f_X7_seen
      rw [has_f hw hh (fun a b hI => hn b hI.2.1 hI.2.2.2), bd1_s, if_pos rfl]
    · unfold f_X8_seen
      rw [wi_cf (by omega) hn, bd1_s, if_pos rfl]
