/-! how many -/
noncomputable def zMn (w h : Nat) (g st : Nat → Nat) (what : Nat) : Nat :=
  if what = 0 then qN w h st else if what = 1 then fb_sm (zF w g st) (qN w h st) else if what = 2 then fb_sm (zC w h g st) (qN w h st) else if what = 3 then fb_sm (fsP (zK w g st)) (qN w h st) else if what = 4 then (prL w h g st).length else if what = 5 then zKn w h g st else if what = 6 then zFn w h g st else cnt (zSn w h g st 2)
theorem c_placesSeen {w h : Nat} {g st : Nat → Nat} {c_list : Nat → Nat} {c_fcount : Int32} {c_regions : Nat → Int32} {c_frows : Nat → Nat → Int32} {c_fshift : Nat → Int32} {c_fdx : Nat → Int32} {c_fdy : Nat → Int32} {c_fleastPlace : Nat → Int32} {c_fpairs : Nat → Int32} {c_foffset : Nat → Int32} {c_fplacesFirst : Nat → Int32} {c_fplaces : Nat → Int32} (hw : w ≤ 16) (hh : h ≤ 16) (ho : OKs st) (hs : SHc w h g st) (hF : CFd w h g st c_list c_fcount c_regions c_frows c_fshift c_fdx c_fdy c_fleastPlace c_fpairs c_foffset c_fplacesFirst c_fplaces) (hl : LPm c_list) : f_X1_placesSeen FU c_list c_fcount c_frows c_fdx c_fdy = some (nI (cnt (zSn w h g st 2))) := by
  have go : ∀ (d y fuel : Nat), y + d = 16 → d < fuel → Rt (f_X1_placesSeen_L4 FU c_list c_fcount c_frows c_fdx c_fdy (fun (x1_1 : Int32) (x2_2 : Int32) => some x1_1) fuel (nI (fb_ct (dB (zSn w h g st 2)) (16 * y))) (nI y)) (fun q => q = nI (cnt (zSn w h g st 2))) := by
    intro d
    induction d with
    | zero =>
      intro y fuel e1 e2
      obtain ⟨f, rfl⟩ : ∃ f, fuel = f + 1 := ⟨fuel - 1, by omega⟩
      have ey : y = 16 := by omega
      subst ey
      rw [f_X1_placesSeen_L4]
      exact rt_t (by rw [show (16 : Int32) = nI 16 from rfl]; exact (by rw [n_le (by omega) (by omega)]; omega)) (rt_some rfl)
    | succ d ih =>
      intro y fuel e1 e2
      obtain ⟨f, rfl⟩ : ∃ f, fuel = f + 1 := ⟨fuel - 1, by omega⟩
      rw [f_X1_placesSeen_L4]
      refine rt_f (by rw [show (16 : Int32) = nI 16 from rfl]; exact (by rw [n_le (by omega) (by omega)]; omega)) ?_
      refine rt_bd1 (c_columnsOf (how := 2) hw hh ho hs hF hl (by omega : y < 16) (by omega)) ?_
      intro v hv
      have e1 : fb_ct (fun i => bt v i) 16 = fb_ct (fun i => dB (zSn w h g st 2) (16 * y + i)) 16 := by
        refine fb_ct_cong (fun i hi => ?_)
        rw [Bool.eq_iff_iff, hv i (by omega), dB_t]
        exact ⟨fun z => z.2, fun z => ⟨hi, z⟩⟩
      have key := ih (y + 1) f (by omega) (by omega)
      rw [show 16 * (y + 1) = 16 * y + 16 by omega, fb_ct_split, ← e1, ← nI_add] at key
      rw [bc_bits (fun i h1 h2 => by cases q : bt v i <;> first | rfl | (have := ((hv i h2).mp q).1; omega)), bd1_s, show nI y + (1 : Int32) = nI (y + 1) from nI_add y 1]
      exact key
  unfold f_X1_placesSeen
  obtain ⟨q, e, rfl⟩ := go 16 0 FU (by omega) (by unfold FU; omega)
  exact e
theorem c_howMany {w h rc what : Nat} {g st : Nat → Nat} {c_greys c_settings : Nat → Int32} {c_reached : Int32} {c_order : Nat → Int32} {c_merged : Nat → Int32} {c_least : Nat → Int32} {c_greatest : Nat → Int32} {c_role : Nat → Int32} {c_head : Nat → Int64} {c_tail : Nat → Int64} {c_rank : Nat → Int32} {c_kindFrom : Nat → Int32} {c_kindTo : Nat → Int32} {c_side : Int32} {c_across : Int32} {c_down : Int32} {c_count : Int32} {c_flats : Int32} {c_crowded : Int32} {c_kinds : Int32} {c_first : Nat → Int32} {c_second : Nat → Int32} {c_pairs : Int32} {c_pairsWith : Nat → Int32} {c_voted : Nat → Int32} {c_ways : Nat → Int32} {c_shcount : Int32} {c_numberOfWay : Nat → Int32} {c_list : Nat → Nat} {c_fcount : Int32} {c_regions : Nat → Int32} {c_left : Nat → Nat → Int32} {c_open : Nat → Int32} {c_frows : Nat → Nat → Int32} {c_fshift : Nat → Int32} {c_fdx : Nat → Int32} {c_fdy : Nat → Int32} {c_fleastPlace : Nat → Int32} {c_fpairs : Nat → Int32} {c_foffset : Nat → Int32} {c_fplacesFirst : Nat → Int32} {c_fplaces : Nat → Int32} (hC : Cor w h g st c_greys c_settings) (hS : CSv w h g st rc c_reached c_order c_merged c_least c_greatest c_role c_head c_tail c_rank c_kindFrom c_kindTo c_side c_across c_down c_count c_flats c_crowded c_kinds c_first c_second c_pairs c_pairsWith c_voted c_ways c_shcount c_numberOfWay c_list c_fcount c_regions c_left c_open c_frows c_fshift c_fdx c_fdy c_fleastPlace c_fpairs c_foffset c_fplacesFirst c_fplaces) (h7 : what ≤ 7) (h1 : 1 ≤ rc) (h2 : 4 ≤ what → 2 ≤ rc) (h3 : 6 ≤ what → 3 ≤ rc) :
    f_X6_howMany FU c_count c_flats c_crowded c_kinds c_pairs c_shcount c_list c_fcount c_frows c_fdx c_fdy (nI what) = some (nI (zMn w h g st what)) := by
  obtain ⟨o, q1, q2, q3, q4, q5, q6, q7, q8, q9, q10, q11, q12⟩ := hS.2.2.2.1 h1
  unfold f_X6_howMany zMn
  by_cases c0 : what = 0
  · subst c0; rw [if_pos rfl, if_pos (show nI 0 = (0 : Int32) from rfl), q9]
  · rw [if_neg c0, if_neg (by rw [show (0 : Int32) = nI 0 from rfl]; exact (by rw [n_inj (by omega) (by omega)]; omega))]
    by_cases c1 : what = 1
    · subst c1; rw [if_pos rfl, if_pos (show nI 1 = (1 : Int32) from rfl), q10]
    · rw [if_neg c1, if_neg (by rw [show (1 : Int32) = nI 1 from rfl]; exact (by rw [n_inj (by omega) (by omega)]; omega))]
      by_cases c2 : what = 2
      · subst c2; rw [if_pos rfl, if_pos (show nI 2 = (2 : Int32) from rfl), q11]; rfl
      · rw [if_neg c2, if_neg (by rw [show (2 : Int32) = nI 2 from rfl]; exact (by rw [n_inj (by omega) (by omega)]; omega))]
        by_cases c3 : what = 3
        · subst c3; rw [if_pos rfl, if_pos (show nI 3 = (3 : Int32) from rfl), q12]
        · rw [if_neg c3, if_neg (by rw [show (3 : Int32) = nI 3 from rfl]; exact (by rw [n_inj (by omega) (by omega)]; omega))]
          obtain ⟨⟨p1, p2, p3, p4, p5⟩, hs, t1, t2, t3, t4⟩ := (hS.2.2.2.2.1 (h2 (by omega))).can
          by_cases c4 : what = 4
          · subst c4; rw [if_pos rfl, if_pos (show nI 4 = (4 : Int32) from rfl), p3]
          · rw [if_neg c4, if_neg (by rw [show (4 : Int32) = nI 4 from rfl]; exact (by rw [n_inj (by omega) (by omega)]; omega))]
            by_cases c5 : what = 5
            · subst c5; rw [if_pos rfl, if_pos (show nI 5 = (5 : Int32) from rfl), t1]
            · rw [if_neg c5, if_neg (by rw [show (5 : Int32) = nI 5 from rfl]; exact (by rw [n_inj (by omega) (by omega)]; omega))]
              have hfd := hS.2.2.2.2.2 (h3 (by omega))
              by_cases c6 : what = 6
              · subst c6; rw [if_pos rfl, if_pos (show nI 6 = (6 : Int32) from rfl), hfd.2.1]
              · rw [if_neg c6, if_neg (by rw [show (6 : Int32) = nI 6 from rfl]; exact (by rw [n_inj (by omega) (by omega)]; omega)), c_placesSeen hC.w hC.h hC.o hs hfd hS.2.2.1, bd1_s]
theorem c_cnt7 {w h rc what : Nat} {g st : Nat → Nat} {c_greys c_settings : Nat → Int32} {c_reached : Int32} {c_order : Nat → Int32} {c_merged : Nat → Int32} {c_least : Nat → Int32} {c_greatest : Nat → Int32} {c_role : Nat → Int32} {c_head : Nat → Int64} {c_tail : Nat → Int64} {c_rank : Nat → Int32} {c_kindFrom : Nat → Int32} {c_kindTo : Nat → Int32} {c_side : Int32} {c_across : Int32} {c_down : Int32} {c_count : Int32} {c_flats : Int32} {c_crowded : Int32} {c_kinds : Int32} {c_first : Nat → Int32} {c_second : Nat → Int32} {c_pairs : Int32} {c_pairsWith : Nat → Int32} {c_voted : Nat → Int32} {c_ways : Nat → Int32} {c_shcount : Int32} {c_numberOfWay : Nat → Int32} {c_list : Nat → Nat} {c_fcount : Int32} {c_regions : Nat → Int32} {c_left : Nat → Nat → Int32} {c_open : Nat → Int32} {c_frows : Nat → Nat → Int32} {c_fshift : Nat → Int32} {c_fdx : Nat → Int32} {c_fdy : Nat → Int32} {c_fleastPlace : Nat → Int32} {c_fpairs : Nat → Int32} {c_foffset : Nat → Int32} {c_fplacesFirst : Nat → Int32} {c_fplaces : Nat → Int32} (hC : Cor w h g st c_greys c_settings) (hS : CSv w h g st rc c_reached c_order c_merged c_least c_greatest c_role c_head c_tail c_rank c_kindFrom c_kindTo c_side c_across c_down c_count c_flats c_crowded c_kinds c_first c_second c_pairs c_pairsWith c_voted c_ways c_shcount c_numberOfWay c_list c_fcount c_regions c_left c_open c_frows c_fshift c_fdx c_fdy c_fleastPlace c_fpairs c_foffset c_fplacesFirst c_fplaces) (h7 : what ≤ 7) :
    ∃ (sg : Int32) (rc' : Nat) (c_reached' : Int32) (c_order' : Nat → Int32) (c_merged' : Nat → Int32) (c_least' : Nat → Int32) (c_greatest' : Nat → Int32) (c_role' : Nat → Int32) (c_head' : Nat → Int64) (c_tail' : Nat → Int64) (c_rank' : Nat → Int32) (c_kindFrom' : Nat → Int32) (c_kindTo' : Nat → Int32) (c_side' : Int32) (c_across' : Int32) (c_down' : Int32) (c_count' : Int32) (c_flats' : Int32) (c_crowded' : Int32) (c_kinds' : Int32) (c_first' : Nat → Int32) (c_second' : Nat → Int32) (c_pairs' : Int32) (c_pairsWith' : Nat → Int32) (c_voted' : Nat → Int32) (c_ways' : Nat → Int32) (c_shcount' : Int32) (c_numberOfWay' : Nat → Int32) (c_list' : Nat → Nat) (c_fcount' : Int32) (c_regions' : Nat → Int32) (c_left' : Nat → Nat → Int32) (c_open' : Nat → Int32) (c_frows' : Nat → Nat → Int32) (c_fshift' : Nat → Int32) (c_fdx' : Nat → Int32) (c_fdy' : Nat → Int32) (c_fleastPlace' : Nat → Int32) (c_fpairs' : Nat → Int32) (c_foffset' : Nat → Int32) (c_fplacesFirst' : Nat → Int32) (c_fplaces' : Nat → Int32), f_X7_stageOfCount FU (nI what) = some sg ∧ f_X6_reach FU c_greys (nI w) (nI h) c_settings c_reached c_order c_merged c_least c_greatest c_role c_head c_tail c_rank c_kindFrom c_kindTo c_side c_across c_down c_count c_flats c_crowded c_kinds c_first c_second c_pairs c_pairsWith c_voted c_ways c_shcount c_numberOfWay c_list c_fcount c_regions c_left c_open c_frows c_fshift c_fdx c_fdy c_fleastPlace c_fpairs c_foffset c_fplacesFirst c_fplaces sg = some (c_reached', c_order', c_merged', c_least', c_greatest', c_role', c_head', c_tail', c_rank', c_kindFrom', c_kindTo', c_side', c_across', c_down', c_count', c_flats', c_crowded', c_kinds', c_first', c_second', c_pairs', c_pairsWith', c_voted', c_ways', c_shcount', c_numberOfWay', c_list', c_fcount', c_regions', c_left', c_open', c_frows', c_fshift', c_fdx', c_fdy', c_fleastPlace', c_fpairs', c_foffset', c_fplacesFirst', c_fplaces') ∧ f_X6_howMany FU c_count' c_flats' c_crowded' c_kinds' c_pairs' c_shcount' c_list' c_fcount' c_frows' c_fdx' c_fdy' (nI what) = some (nI (zMn w h g st what)) ∧ CSv w h g st rc' c_reached' c_order' c_merged' c_least' c_greatest' c_role' c_head' c_tail' c_rank' c_kindFrom' c_kindTo' c_side' c_across' c_down' c_count' c_flats' c_crowded' c_kinds' c_first' c_second' c_pairs' c_pairsWith' c_voted' c_ways' c_shcount' c_numberOfWay' c_list' c_fcount' c_regions' c_left' c_open' c_frows' c_fshift' c_fdx' c_fdy' c_fleastPlace' c_fpairs' c_foffset' c_fplacesFirst' c_fplaces' := by
  unfold f_X7_stageOfCount
  by_cases c1 : 3 < what
  · rw [if_pos (by rw [show (3 : Int32) = nI 3 from rfl]; exact (by rw [n_lt (by omega) (by omega)]; omega))]
    by_cases c2 : 5 < what
    · rw [if_pos (by rw [show (5 : Int32) = nI 5 from rfl]; exact (by rw [n_lt (by omega) (by omega)]; omega))]
      obtain ⟨rc', c_reached', c_order', c_merged', c_least', c_greatest', c_role', c_head', c_tail', c_rank', c_kindFrom', c_kindTo', c_side', c_across', c_down', c_count', c_flats', c_crowded', c_kinds', c_first', c_second', c_pairs', c_pairsWith', c_voted', c_ways', c_shcount', c_numberOfWay', c_list', c_fcount', c_regions', c_left', c_open', c_frows', c_fshift', c_fdx', c_fdy', c_fleastPlace', c_fpairs', c_foffset', c_fplacesFirst', c_fplaces', e, r, hS'⟩ := c_reach3 hC hS
      exact ⟨3, rc', _, _, _, _, _, _, _, _, _, _, _, _, _, _, _, _, _, _, _, _, _, _, _, _, _, _, _, _, _, _, _, _, _, _, _, _, _, _, _, _, rfl, e, c_howMany hC hS' h7 (by omega) (fun _ => by omega) (fun _ => r), hS'⟩
    · rw [if_neg (by rw [show (5 : Int32) = nI 5 from rfl]; exact (by rw [n_lt (by omega) (by omega)]; omega))]
      obtain ⟨rc', c_reached', c_order', c_merged', c_least', c_greatest', c_role', c_head', c_tail', c_rank', c_kindFrom', c_kindTo', c_side', c_across', c_down', c_count', c_flats', c_crowded', c_kinds', c_first', c_second', c_pairs', c_pairsWith', c_voted', c_ways', c_shcount', c_numberOfWay', c_list', c_fcount', c_regions', c_left', c_open', c_frows', c_fshift', c_fdx', c_fdy', c_fleastPlace', c_fpairs', c_foffset', c_fplacesFirst', c_fplaces', e, r, hS'⟩ := c_reach2 hC hS
      exact ⟨2, rc', _, _, _, _, _, _, _, _, _, _, _, _, _, _, _, _, _, _, _, _, _, _, _, _, _, _, _, _, _, _, _, _, _, _, _, _, _, _, _, _, rfl, e, c_howMany hC hS' h7 (by omega) (fun _ => r) (fun _ => by omega), hS'⟩
  · rw [if_neg (by rw [show (3 : Int32) = nI 3 from rfl]; exact (by rw [n_lt (by omega) (by omega)]; omega))]
    obtain ⟨rc', c_reached', c_order', c_merged', c_least', c_greatest', c_role', c_head', c_tail', c_rank', c_kindFrom', c_kindTo', c_side', c_across', c_down', c_count', c_flats', c_crowded', c_kinds', c_first', c_second', c_pairs', c_pairsWith', c_voted', c_ways', c_shcount', c_numberOfWay', c_list', c_fcount', c_regions', c_left', c_open', c_frows', c_fshift', c_fdx', c_fdy', c_fleastPlace', c_fpairs', c_foffset', c_fplacesFirst', c_fplaces', e, r, hS'⟩ := c_reach1 hC hS
    exact ⟨1, rc', _, _, _, _, _, _, _, _, _, _, _, _, _, _, _, _, _, _, _, _, _, _, _, _, _, _, _, _, _, _, _, _, _, _, _, _, _, _, _, _, rfl, e, c_howMany hC hS' h7 r (fun _ => by omega) (fun _ => by omega), hS'⟩
/-! the reference -/
def sqF (w h : Nat) (g st : Nat → Nat) (what s : Nat) : Nat := if what = 1 then zF w g st s else if what = 2 then zC w h g st s else fsP (zK w g st) s
theorem fsP_1 (κ : Nat → Nat) (i : Nat) : fsP κ i ≤ 1 := by unfold fsP; split <;> omega
theorem m_squaresThat {w h what : Nat} {g st : Nat → Nat} {cs csq cd cl ck cw : Nat → Int32} (hS : RepS cs st) (hg : ∀ q, q < 256 → g q ≤ 99) (ho : OKs st) (hw : w ≤ 16) (hh : h ≤ 16) (hM : MS w g st (qN w h st) csq cd cl) (hL : LK w g st (qN w h st) ck) (hW : ∀ t, t < qN w h st → cw t = nI (zC w h g st t)) (h1 : what ≤ 3) :
    f_X8_squaresThat FU cs (nI (qN w h st)) cd cl ck cw (nI what) = some (nI (fb_sm (sqF w h g st what) (qN w h st))) := by
  have hN := qN_225 (w := w) (h := h) ho hw hh
  have go : ∀ (d s fuel : Nat), s + d = qN w h st → d < fuel → Rt (f_X8_squaresThat_L4 FU (nI what) cs (nI (qN w h st)) cd cl ck cw (fun (x2_1 : Int32) (x3_2 : Int32) => some x2_1) fuel (nI (fb_sm (sqF w h g st what) s)) (nI s)) (fun q => q = nI (fb_sm (sqF w h g st what) (qN w h st))) := by
    intro d
    induction d with
    | zero =>
      intro s fuel e1 e2
      obtain ⟨f, rfl⟩ : ∃ f, fuel = f + 1 := ⟨fuel - 1, by omega⟩
      have es : s = qN w h st := by omega
      subst es
      rw [f_X8_squaresThat_L4]
      exact rt_t (by rw [n_le (by omega) (by omega)]; omega) (rt_some rfl)
    | succ d ih =>
      intro s fuel e1 e2
      obtain ⟨f, rfl⟩ : ∃ f, fuel = f + 1 := ⟨fuel - 1, by omega⟩
      have hs : s < qN w h st := by omega
      have key := ih (s + 1) f (by omega) (by omega)
      rw [fb_sm_succ, ← nI_add] at key
      have b1 := zF_1 w g st s
      have b2 := zC_1 w h g st s
      have b3 := fsP_1 (zK w g st) s
      rw [f_X8_squaresThat_L4]
      refine rt_f (by rw [n_le (by omega) (by omega)]; omega) ?_
      rw [show nI s + (1 : Int32) = nI (s + 1) from nI_add s 1]
      refine rt_j (fun j => ∀ t : Nat, t ≤ 1 → t = sqF w h g st what s → Rt (j (nI t)) (fun q => q = nI (fb_sm (sqF w h g st what) (qN w h st)))) ?_ ?_
      · intro t ht et
        rw [← et] at key
        refine rt_jn ?_
        dsimp only
        refine rt_if (fun c => ?_) (fun c => ?_)
        · rw [show (0 : Int32) = nI 0 from rfl, n_inj (by omega) (by omega)] at c
          subst c
          exact key
        · rw [show (0 : Int32) = nI 0 from rfl, n_inj (by omega) (by omega)] at c
          have : t = 1 := by omega
          subst this
          exact key
      · intro j hj
        refine rt_if (fun c => ?_) (fun c => ?_)
        · rw [show (1 : Int32) = nI 1 from rfl, n_inj (by omega) (by omega)] at c
          rw [m_flat hS hg ho hw hh hM hs, bd1_s]
          exact hj _ b1 (by unfold sqF; rw [if_pos c])
        · rw [show (1 : Int32) = nI 1 from rfl, n_inj (by omega) (by omega)] at c
          refine rt_if (fun c2 => ?_) (fun c2 => ?_)
          · rw [show (2 : Int32) = nI 2 from rfl, n_inj (by omega) (by omega)] at c2
            rw [rd_ok (by omega) (by omega), hW s hs]
            exact hj _ b2 (by unfold sqF; rw [if_neg c, if_pos c2])
          · rw [show (2 : Int32) = nI 2 from rfl, n_inj (by omega) (by omega)] at c2
            rw [rd_ok (by omega) (by omega)]
            have lk := lk_self ho hg hw hh hL hs
            refine rt_if (fun c3 => ?_) (fun c3 => ?_)
            · exact hj 1 (by omega) (by unfold sqF; rw [if_neg c, if_neg c2]; exact (lk.mp c3).symm)
            · refine hj 0 (by omega) ?_
              unfold sqF
              rw [if_neg c, if_neg c2]
              have : ¬ fsP (zK w g st) s = 1 := fun z => c3 (lk.mpr z)
              omega
  unfold f_X8_squaresThat
  obtain ⟨q, e, rfl⟩ := go (qN w h st) 0 FU (by omega) (by unfold FU; omega)
  exact e
theorem m_mn92 {w h : Nat} {g st : Nat → Nat} {cx cy crs cra crp crf crof cof cbg chd cin cnum : Nat → Int32} {nr nf : Int32} {kk : _} {P : _} (hw : w ≤ 16) (hh : h ≤ 16) (hw1 : 1 ≤ w) (hh1 : 1 ≤ h) (ho : OKs st) (hs : SHc w h g st) (hX : RX (zT w h g st) (zKn w h g st) cx cy) (hR : MRs w h g st cra nr crs crp crf) (hF : MFd w h g st nf crof cof cbg chd cin cnum) :
    ∀ (d p fuel : Nat), p + d = 256 → d < fuel → (∀ z : Int32, Rt (kk (nI (cnt (zSn w h g st 2))) z) P) → Rt (f_X8_many_L92 FU (nI w) (nI h) cx cy crs nf crof cin kk fuel (nI (fb_ct (dB (zSn w h g st 2)) p)) (nI p)) P := by
  intro d
  induction d with
  | zero =>
    intro p fuel e1 e2 hk
    obtain ⟨f, rfl⟩ : ∃ f, fuel = f + 1 := ⟨fuel - 1, by omega⟩
    have ep : p = 256 := by omega
    subst ep
    rw [f_X8_many_L92]
    exact rt_t (by rw [show (256 : Int32) = nI 256 from rfl]; exact (by rw [n_le (by omega) (by omega)]; omega)) (hk _)
  | succ d ih =>
    intro p fuel e1 e2 hk
    obtain ⟨f, rfl⟩ : ∃ f, fuel = f + 1 := ⟨fuel - 1, by omega⟩
    have key := ih (p + 1) f (by omega) (by omega) hk
    rw [fb_ct_succ, ← nI_add] at key
    rw [f_X8_many_L92]
    refine rt_f (by rw [show (256 : Int32) = nI 256 from rfl]; exact (by rw [n_le (by omega) (by omega)]; omega)) ?_
    rw [md16 (by omega), dv16 (by omega), show nI p + (1 : Int32) = nI (p + 1) from nI_add p 1]
    have no : ¬ zSn w h g st 2 p → Rt (f_X8_many_L92 FU (nI w) (nI h) cx cy crs nf crof cin kk f (nI (fb_ct (dB (zSn w h g st 2)) p) + 0) (nI (p + 1))) P := by
      intro z
      have hn : ¬ dB (zSn w h g st 2) p = true := fun y => z (dB_t.mp y)
      rw [if_neg hn] at key
      exact key
    by_cases c : p % 16 < w ∧ p / 16 < h
    · rw [pl_t hw hh (a := p % 16) (b := p / 16) ⟨c.1, c.2, rfl, rfl⟩, bd1_s]
      refine rt_jn ?_
      dsimp only
      refine rt_f (by decide) ?_
      have ms := m_isSeen (how := 2) hw hh hw1 hh1 ho hs hX hR hF c.1 c.2 (by omega)
      rw [show 16 * (p / 16) + p % 16 = p by omega] at ms
      refine rt_bd1 ms ?_
      intro t ht
      refine rt_if (fun c2 => no (ht.mp c2)) (fun c2 => ?_)
      have hy : dB (zSn w h g st 2) p = true := dB_t.mpr (Classical.byContradiction (fun z => c2 (ht.mpr z)))
      rw [hy, if_pos rfl] at key
      exact key
    · rw [pl_f hw hh hw1 hh1 (fun a b hI => by
        obtain ⟨i1, i2, i3, i4⟩ := hI
        rw [n_inj (by omega) (by omega)] at i3 i4
        omega), bd1_s]
      refine rt_jn ?_
      dsimp only
      exact rt_t rfl (no (fun z => c (zSn_in ho hw hh hF.1 z)))
theorem m_manyA {w h om what : Nat} {g st : Nat → Nat} {m_grey m_setting : Nat → Int32} {m_squares : Int32} {m_square : Nat → Int32} {m_dark : Nat → Int32} {m_light : Nat → Int32} {m_like : Nat → Int32} {m_isCrowded : Nat → Int32} {m_pairs : Int32} {m_first : Nat → Int32} {m_second : Nat → Int32} {m_votes : Nat → Int32} {m_shifts : Int32} {m_shiftX : Nat → Int32} {m_shiftY : Nat → Int32} {m_regionAt : Nat → Int32} {m_regions : Int32} {m_regionShift : Nat → Int32} {m_regionPairs : Nat → Int32} {m_regionFirst : Nat → Int32} {m_findings : Int32} {m_regionOf : Nat → Int32} {m_offset : Nat → Int32} {m_begun : Nat → Int32} {m_held : Nat → Int32} {m_isIn : Nat → Int32} {m_numbered : Nat → Int32} (hD : Cor w h g st m_grey m_setting) (hM : MAll w h g st om m_squares m_square m_dark m_light m_like m_isCrowded m_pairs m_first m_second m_votes m_shifts m_shiftX m_shiftY m_regionAt m_regions m_regionShift m_regionPairs m_regionFirst m_findings m_regionOf m_offset m_begun m_held m_isIn m_numbered) (h7 : what ≤ 7) :
    ∃ (om' : Nat) (m_squares' : Int32) (m_square' : Nat → Int32) (m_dark' : Nat → Int32) (m_light' : Nat → Int32) (m_like' : Nat → Int32) (m_isCrowded' : Nat → Int32) (m_pairs' : Int32) (m_first' : Nat → Int32) (m_second' : Nat → Int32) (m_votes' : Nat → Int32) (m_shifts' : Int32) (m_shiftX' : Nat → Int32) (m_shiftY' : Nat → Int32) (m_regionAt' : Nat → Int32) (m_regions' : Int32) (m_regionShift' : Nat → Int32) (m_regionPairs' : Nat → Int32) (m_regionFirst' : Nat → Int32) (m_findings' : Int32) (m_regionOf' : Nat → Int32) (m_offset' : Nat → Int32) (m_begun' : Nat → Int32) (m_held' : Nat → Int32) (m_isIn' : Nat → Int32) (m_numbered' : Nat → Int32), f_X8_many FU (nI om) (nI w) (nI h) m_grey m_setting m_squares m_square m_dark m_light m_like m_isCrowded m_pairs m_first m_second m_votes m_shifts m_shiftX m_shiftY m_regionAt m_regions m_regionShift m_regionPairs m_regionFirst m_findings m_regionOf m_offset m_begun m_held m_isIn m_numbered (nI what) = some (nI (zMn w h g st what), nI om', m_squares', m_square', m_dark', m_light', m_like', m_isCrowded', m_pairs', m_first', m_second', m_votes', m_shifts', m_shiftX', m_shiftY', m_regionAt', m_regions', m_regionShift', m_regionPairs', m_regionFirst', m_findings', m_regionOf', m_offset', m_begun', m_held', m_isIn', m_numbered') ∧ MAll w h g st om' m_squares' m_square' m_dark' m_light' m_like' m_isCrowded' m_pairs' m_first' m_second' m_votes' m_shifts' m_shiftX' m_shiftY' m_regionAt' m_regions' m_regionShift' m_regionPairs' m_regionFirst' m_findings' m_regionOf' m_offset' m_begun' m_held' m_isIn' m_numbered' := by
  obtain ⟨hs, hf⟩ := fdc hD.1
  obtain ⟨om', m_squares', m_square', m_dark', m_light', m_like', m_isCrowded', m_pairs', m_first', m_second', m_votes', m_shifts', m_shiftX', m_shiftY', m_regionAt', m_regions', m_regionShift', m_regionPairs', m_regionFirst', m_findings', m_regionOf', m_offset', m_begun', m_held', m_isIn', m_numbered', e8, r8, hM'⟩ := ma5 hD hf hM
  have l1 := hM'.2.1 (by omega)
  have l2 := hM'.2.2.1 (by omega)
  obtain ⟨_, l31, l32⟩ := (hM'.2.2.2.1 (by omega)).can
  have l4 := hM'.2.2.2.2.1 (by omega)
  have l5 := hM'.2.2.2.2.2 r8
  have w1 : f_X8_within FU (nI what) 0 7 = some 1 := wi_in (a := 0) (b := 7) (n := what) (by omega) ⟨by omega, h7, rfl⟩
  refine ⟨om', _, _, _, _, _, _, _, _, _, _, _, _, _, _, _, _, _, _, _, _, _, _, _, _, _, ?_, hM'⟩
  unfold f_X8_many
  rw [w1, bd1_s, if_neg (by decide), e8, bd26_s]
  have sqt : what ≤ 3 → f_X8_squaresThat FU m_setting m_squares' m_dark' m_light' m_like' m_isCrowded' (nI what) = some (nI (fb_sm (sqF w h g st what) (qN w h st))) := by
    intro hle
    rw [l1.1]
    exact m_squaresThat hD.2.2 hD.g hD.o hD.w hD.h l1.2.1 l1.2.2 l2.1 hle
  unfold zMn
  by_cases c0 : what = 0
  · subst c0; rw [if_pos rfl, if_pos (show nI 0 = (0 : Int32) from rfl), l1.1]
  · rw [if_neg c0, if_neg (by rw [show (0 : Int32) = nI 0 from rfl]; exact (by rw [n_inj (by omega) (by omega)]; omega))]
    by_cases c1 : what = 1
    · rw [if_pos c1, if_pos (by rw [c1]; rfl), sqt (by omega), bd1_s, c1]; rfl
    · rw [if_neg c1, if_neg (by rw [show (1 : Int32) = nI 1 from rfl]; exact (by rw [n_inj (by omega) (by omega)]; omega))]
      by_cases c2 : what = 2
      · rw [if_pos c2, if_pos (by rw [c2]; rfl), sqt (by omega), bd1_s, c2]; rfl
      · rw [if_neg c2, if_neg (by rw [show (2 : Int32) = nI 2 from rfl]; exact (by rw [n_inj (by omega) (by omega)]; omega))]
        by_cases c3 : what = 3
        · rw [if_pos c3, if_pos (by rw [c3]; rfl), sqt (by omega), bd1_s, c3]; rfl
        · rw [if_neg c3, if_neg (by rw [show (3 : Int32) = nI 3 from rfl]; exact (by rw [n_inj (by omega) (by omega)]; omega))]
          by_cases c4 : what = 4
          · rw [if_pos c4, if_pos (by rw [c4]; rfl), l2.2.1]
          · rw [if_neg c4, if_neg (by rw [show (4 : Int32) = nI 4 from rfl]; exact (by rw [n_inj (by omega) (by omega)]; omega))]
            by_cases c5 : what = 5
            · rw [if_pos c5, if_pos (by rw [c5]; rfl), l31]
            · rw [if_neg c5, if_neg (by rw [show (5 : Int32) = nI 5 from rfl]; exact (by rw [n_inj (by omega) (by omega)]; omega))]
              by_cases c6 : what = 6
              · rw [if_pos c6, if_pos (by rw [c6]; rfl), l5.2.1]
              · rw [if_neg c6, if_neg (by rw [show (6 : Int32) = nI 6 from rfl]; exact (by rw [n_inj (by omega) (by omega)]; omega))]
                obtain ⟨q, e, rfl⟩ := m_mn92 (kk := fun (x2_38 : Int32) (x3_39 : Int32) => some (x2_38, nI om', m_squares', m_square', m_dark', m_light', m_like', m_isCrowded', m_pairs', m_first', m_second', m_votes', m_shifts', m_shiftX', m_shiftY', m_regionAt', m_regions', m_regionShift', m_regionPairs', m_regionFirst', m_findings', m_regionOf', m_offset', m_begun', m_held', m_isIn', m_numbered')) (P := fun q => q = (nI (cnt (zSn w h g st 2)), nI om', m_squares', m_square', m_dark', m_light', m_like', m_isCrowded', m_pairs', m_first', m_second', m_votes', m_shifts', m_shiftX', m_shiftY', m_regionAt', m_regions', m_regionShift', m_regionPairs', m_regionFirst', m_findings', m_regionOf', m_offset', m_begun', m_held', m_isIn', m_numbered')) hD.w hD.h hD.w1 hD.h1 hD.o hs l32 l4 l5 256 0 FU (by omega) (by unfold FU; omega) (fun z => rt_some rfl)
                exact e
theorem j_many {w h rc om : Nat} {g st : Nat → Nat} {c_greys c_settings m_grey m_setting : Nat → Int32} {c_reached : Int32} {c_order : Nat → Int32} {c_merged : Nat → Int32} {c_least : Nat → Int32} {c_greatest : Nat → Int32} {c_role : Nat → Int32} {c_head : Nat → Int64} {c_tail : Nat → Int64} {c_rank : Nat → Int32} {c_kindFrom : Nat → Int32} {c_kindTo : Nat → Int32} {c_side : Int32} {c_across : Int32} {c_down : Int32} {c_count : Int32} {c_flats : Int32} {c_crowded : Int32} {c_kinds : Int32} {c_first : Nat → Int32} {c_second : Nat → Int32} {c_pairs : Int32} {c_pairsWith : Nat → Int32} {c_voted : Nat → Int32} {c_ways : Nat → Int32} {c_shcount : Int32} {c_numberOfWay : Nat → Int32} {c_list : Nat → Nat} {c_fcount : Int32} {c_regions : Nat → Int32} {c_left : Nat → Nat → Int32} {c_open : Nat → Int32} {c_frows : Nat → Nat → Int32} {c_fshift : Nat → Int32} {c_fdx : Nat → Int32} {c_fdy : Nat → Int32} {c_fleastPlace : Nat → Int32} {c_fpairs : Nat → Int32} {c_foffset : Nat → Int32} {c_fplacesFirst : Nat → Int32} {c_fplaces : Nat → Int32} {m_squares : Int32} {m_square : Nat → Int32} {m_dark : Nat → Int32} {m_light : Nat → Int32} {m_like : Nat → Int32} {m_isCrowded : Nat → Int32} {m_pairs : Int32} {m_first : Nat → Int32} {m_second : Nat → Int32} {m_votes : Nat → Int32} {m_shifts : Int32} {m_shiftX : Nat → Int32} {m_shiftY : Nat → Int32} {m_regionAt : Nat → Int32} {m_regions : Int32} {m_regionShift : Nat → Int32} {m_regionPairs : Nat → Int32} {m_regionFirst : Nat → Int32} {m_findings : Int32} {m_regionOf : Nat → Int32} {m_offset : Nat → Int32} {m_begun : Nat → Int32} {m_held : Nat → Int32} {m_isIn : Nat → Int32} {m_numbered : Nat → Int32} (hC : Cor w h g st c_greys c_settings) (hD : Cor w h g st m_grey m_setting) (hS : CSv w h g st rc c_reached c_order c_merged c_least c_greatest c_role c_head c_tail c_rank c_kindFrom c_kindTo c_side c_across c_down c_count c_flats c_crowded c_kinds c_first c_second c_pairs c_pairsWith c_voted c_ways c_shcount c_numberOfWay c_list c_fcount c_regions c_left c_open c_frows c_fshift c_fdx c_fdy c_fleastPlace c_fpairs c_foffset c_fplacesFirst c_fplaces) (hM : MAll w h g st om m_squares m_square m_dark m_light m_like m_isCrowded m_pairs m_first m_second m_votes m_shifts m_shiftX m_shiftY m_regionAt m_regions m_regionShift m_regionPairs m_regionFirst m_findings m_regionOf m_offset m_begun m_held m_isIn m_numbered) (x1 : Int32) : ∃ (r : Int32) (rc' om' : Nat) (c_reached' : Int32) (c_order' : Nat → Int32) (c_merged' : Nat → Int32) (c_least' : Nat → Int32) (c_greatest' : Nat → Int32) (c_role' : Nat → Int32) (c_head' : Nat → Int64) (c_tail' : Nat → Int64) (c_rank' : Nat → Int32) (c_kindFrom' : Nat → Int32) (c_kindTo' : Nat → Int32) (c_side' : Int32) (c_across' : Int32) (c_down' : Int32) (c_count' : Int32) (c_flats' : Int32) (c_crowded' : Int32) (c_kinds' : Int32) (c_first' : Nat → Int32) (c_second' : Nat → Int32) (c_pairs' : Int32) (c_pairsWith' : Nat → Int32) (c_voted' : Nat → Int32) (c_ways' : Nat → Int32) (c_shcount' : Int32) (c_numberOfWay' : Nat → Int32) (c_list' : Nat → Nat) (c_fcount' : Int32) (c_regions' : Nat → Int32) (c_left' : Nat → Nat → Int32) (c_open' : Nat → Int32) (c_frows' : Nat → Nat → Int32) (c_fshift' : Nat → Int32) (c_fdx' : Nat → Int32) (c_fdy' : Nat → Int32) (c_fleastPlace' : Nat → Int32) (c_fpairs' : Nat → Int32) (c_foffset' : Nat → Int32) (c_fplacesFirst' : Nat → Int32) (c_fplaces' : Nat → Int32) (m_squares' : Int32) (m_square' : Nat → Int32) (m_dark' : Nat → Int32) (m_light' : Nat → Int32) (m_like' : Nat → Int32) (m_isCrowded' : Nat → Int32) (m_pairs' : Int32) (m_first' : Nat → Int32) (m_second' : Nat → Int32) (m_votes' : Nat → Int32) (m_shifts' : Int32) (m_shiftX' : Nat → Int32) (m_shiftY' : Nat → Int32) (m_regionAt' : Nat → Int32) (m_regions' : Int32) (m_regionShift' : Nat → Int32) (m_regionPairs' : Nat → Int32) (m_regionFirst' : Nat → Int32) (m_findings' : Int32) (m_regionOf' : Nat → Int32) (m_offset' : Nat → Int32) (m_begun' : Nat → Int32) (m_held' : Nat → Int32) (m_isIn' : Nat → Int32) (m_numbered' : Nat → Int32), f_X7_many FU c_greys (nI w) (nI h) c_settings c_reached c_order c_merged c_least c_greatest c_role c_head c_tail c_rank c_kindFrom c_kindTo c_side c_across c_down c_count c_flats c_crowded c_kinds c_first c_second c_pairs c_pairsWith c_voted c_ways c_shcount c_numberOfWay c_list c_fcount c_regions c_left c_open c_frows c_fshift c_fdx c_fdy c_fleastPlace c_fpairs c_foffset c_fplacesFirst c_fplaces x1 = some (r, c_reached', c_order', c_merged', c_least', c_greatest', c_role', c_head', c_tail', c_rank', c_kindFrom', c_kindTo', c_side', c_across', c_down', c_count', c_flats', c_crowded', c_kinds', c_first', c_second', c_pairs', c_pairsWith', c_voted', c_ways', c_shcount', c_numberOfWay', c_list', c_fcount', c_regions', c_left', c_open', c_frows', c_fshift', c_fdx', c_fdy', c_fleastPlace', c_fpairs', c_foffset', c_fplacesFirst', c_fplaces') ∧ f_X8_many FU (nI om) (nI w) (nI h) m_grey m_setting m_squares m_square m_dark m_light m_like m_isCrowded m_pairs m_first m_second m_votes m_shifts m_shiftX m_shiftY m_regionAt m_regions m_regionShift m_regionPairs m_regionFirst m_findings m_regionOf m_offset m_begun m_held m_isIn m_numbered x1 = some (r, nI om', m_squares', m_square', m_dark', m_light', m_like', m_isCrowded', m_pairs', m_first', m_second', m_votes', m_shifts', m_shiftX', m_shiftY', m_regionAt', m_regions', m_regionShift', m_regionPairs', m_regionFirst', m_findings', m_regionOf', m_offset', m_begun', m_held', m_isIn', m_numbered') ∧ CSv w h g st rc' c_reached' c_order' c_merged' c_least' c_greatest' c_role' c_head' c_tail' c_rank' c_kindFrom' c_kindTo' c_side' c_across' c_down' c_count' c_flats' c_crowded' c_kinds' c_first' c_second' c_pairs' c_pairsWith' c_voted' c_ways' c_shcount' c_numberOfWay' c_list' c_fcount' c_regions' c_left' c_open' c_frows' c_fshift' c_fdx' c_fdy' c_fleastPlace' c_fpairs' c_foffset' c_fplacesFirst' c_fplaces' ∧ MAll w h g st om' m_squares' m_square' m_dark' m_light' m_like' m_isCrowded' m_pairs' m_first' m_second' m_votes' m_shifts' m_shiftX' m_shiftY' m_regionAt' m_regions' m_regionShift' m_regionPairs' m_regionFirst' m_findings' m_regionOf' m_offset' m_begun' m_held' m_isIn' m_numbered'  := by
  by_cases c : ∃ n, InR x1 0 7 n
  · obtain ⟨what, hn⟩ := c
    have w1 : f_X8_within FU x1 0 7 = some 1 := wi_in (a := 0) (b := 7) (by omega) hn
    obtain ⟨sg, rc', c_reached', c_order', c_merged', c_least', c_greatest', c_role', c_head', c_tail', c_rank', c_kindFrom', c_kindTo', c_side', c_across', c_down', c_count', c_flats', c_crowded', c_kinds', c_first', c_second', c_pairs', c_pairsWith', c_voted', c_ways', c_shcount', c_numberOfWay', c_list', c_fcount', c_regions', c_left', c_open', c_frows', c_fshift', c_fdx', c_fdy', c_fleastPlace', c_fpairs', c_foffset', c_fplacesFirst', c_fplaces', a1, a2, a3, hS'⟩ := c_cnt7 hC hS hn.2.1
    obtain ⟨om', m_squares', m_square', m_dark', m_light', m_like', m_isCrowded', m_pairs', m_first', m_second', m_votes', m_shifts', m_shiftX', m_shiftY', m_regionAt', m_regions', m_regionShift', m_regionPairs', m_regionFirst', m_findings', m_regionOf', m_offset', m_begun', m_held', m_isIn', m_numbered', e8, hM'⟩ := m_manyA hD hM hn.2.1
    have ex := hn.2.2
    refine ⟨nI (zMn w h g st what), rc', om', _, _, _, _, _, _, _, _, _, _, _, _, _, _, _, _, _, _, _, _, _, _, _, _, _, _, _, _, _, _, _, _, _, _, _, _, _, _, _, _, _, _, _, _, _, _, _, _, _, _, _, _, _, _, _, _, _, _, _, _, _, _, _, _, _, ?_, ?_, hS', hM'⟩
    · unfold f_X7_many
      rw [wi_eq, w1, bd1_s, if_neg (by decide), ex, a1, bd1_s, a2, bd40_s, a3, bd1_s]
    · rw [ex]; exact e8
  · have w0 : f_X8_within FU x1 0 7 = some 0 := wi_out (a := 0) (b := 7) (by omega) (by omega) (fun n hn => c ⟨n, hn⟩)
    refine ⟨-2, rc, om, _, _, _, _, _, _, _, _, _, _, _, _, _, _, _, _, _, _, _, _, _, _, _, _, _, _, _, _, _, _, _, _, _, _, _, _, _, _, _, _, _, _, _, _, _, _, _, _, _, _, _, _, _, _, _, _, _, _, _, _, _, _, _, _, _, ?_, ?_, hS, hM⟩
    · unfold f_X7_many
      rw [wi_eq, w0, bd1_s, if_pos rfl]
    · unfold f_X8_many
      rw [w0, bd1_s, if_pos rfl]
