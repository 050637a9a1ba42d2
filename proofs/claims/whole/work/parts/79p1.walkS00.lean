set_option maxHeartbeats 1000000 in
set_option maxRecDepth 100000 in
theorem c_X7_acrossOf (l : Launch) (G : va_G) (kc : Nat → ClassId)   (x0 : Int32) {r : Int32} {FU : Nat} (h : f_X7_acrossOf FU x0 = some r) : CTi l G kc yX7_acrossOf cX7_acrossOf 1 (some .int) (rmq 0 0) [.int x0] ([]) ([]) r := by
  refine CTi.mk (by decide) (Nat.le_of_ble_eq_true rfl) ?_
  intro p e s m args below meth c A ls Q hQ S hr hlocks hN hA hK hl hP hD hS
  have hx := S.1
  have hb := S.2.1
  have hl : lv_has ls 1 [(0, .int x0)] := hl
  unfold f_X7_acrossOf at h
  refine lv_iload_n hx hb dX7_acrossOf_0 rfl (lv_at hl 0 rfl) ?_
  refine lv_bipush (v := 31) hx hb dX7_acrossOf_1 (by decide) ?_
  refine lv_irem hx hb dX7_acrossOf_3 (by decide) ?_
  refine lv_bipush (v := 15) hx hb dX7_acrossOf_4 (by decide) ?_
  refine lv_isub hx hb dX7_acrossOf_6 ?_
  cases h
  exact ret_i hx hb hr rfl hQ hlocks hK hP hD hS dX7_acrossOf_7
set_option maxHeartbeats 1000000 in
set_option maxRecDepth 100000 in
theorem c_X7_downOf (l : Launch) (G : va_G) (kc : Nat → ClassId)   (x0 : Int32) {r : Int32} {FU : Nat} (h : f_X7_downOf FU x0 = some r) : CTi l G kc yX7_downOf cX7_downOf 1 (some .int) (rmq 0 0) [.int x0] ([]) ([]) r := by
  refine CTi.mk (by decide) (Nat.le_of_ble_eq_true rfl) ?_
  intro p e s m args below meth c A ls Q hQ S hr hlocks hN hA hK hl hP hD hS
  have hx := S.1
  have hb := S.2.1
  have hl : lv_has ls 1 [(0, .int x0)] := hl
  unfold f_X7_downOf at h
  refine lv_iload_n hx hb dX7_downOf_0 rfl (lv_at hl 0 rfl) ?_
  refine lv_bipush (v := 31) hx hb dX7_downOf_1 (by decide) ?_
  refine lv_idiv hx hb dX7_downOf_3 (by decide) ?_
  cases h
  exact ret_i hx hb hr rfl hQ hlocks hK hP hD hS dX7_downOf_4
set_option maxHeartbeats 1000000 in
set_option maxRecDepth 100000 in
theorem c_X3_clear (l : Launch) (G : va_G) (kc : Nat → ClassId) (a0 : Nat) {c_a : (Nat → Int32)}  {c_a' : (Nat → Int32)} {FU : Nat} (h : f_X3_clear FU c_a = some c_a') : CTv l G kc yX3_clear cX3_clear 2 none (rmq 0 0) [.ref a0] ([(a0, .inl (kc 0, 16, .inl c_a))]) ([(a0, .inl (kc 0, 16, .inl (c_a')))]) := by
  refine CTv.mk (by decide) (Nat.le_of_ble_eq_true rfl) ?_
  intro p e s m args below meth c A ls Q hQ S hr hlocks hN hA hK hl hP hD hS
  have hx := S.1
  have hb := S.2.1
  have hl : lv_has ls 2 [(0, .ref a0)] := hl
  unfold f_X3_clear at h
  refine lv_iconst (v := 0) hx hb dX3_clear_0 (by decide) ?_
  refine lv_istore_n (lv' := [(1, .int 0), (0, .ref a0)]) hx hb dX3_clear_1 rfl hl (by decide) rfl (fun ls hl => ?_)
  refine jn_w (t := fun k => f_X3_clear_L2 FU  k FU 0 c_a) (fun (k : Int32 → (Nat → Int32) → Option ((Nat → Int32))) => ∀ (x1_1 : Int32) (c_a_2 : (Nat → Int32)) (H : Heap) (locs : List Loc) (ls : Array Slot), VP G ([(a0, .inl (kc 0, 16, .inl c_a_2))]) H → va_D A ([(a0, .inl (kc 0, 16, .inl c_a_2))]) → va_S A s.heap H locs → lv_has ls 2 [] → k x1_1 c_a_2 = some c_a' → WW p l e (rmq 0 0) s m args below meth c Q H locs 18 ls []) h ?_ ?_
  · intro x1_1 c_a_2 H locs ls hP hD hS hl h
    cases h
    exact ret_v hx hb hr hQ hlocks hK hP hD hS dX3_clear_18
  · intro k_3 K_4 h
    have L_5 : ∀ (n : Nat) (x1_1 : Int32) (c_a_2 : (Nat → Int32)) (H : Heap) (locs : List Loc) (ls : Array Slot), VP G ([(a0, .inl (kc 0, 16, .inl c_a_2))]) H → va_D A ([(a0, .inl (kc 0, 16, .inl c_a_2))]) → va_S A s.heap H locs → lv_has ls 2 [(0, .ref a0), (1, .int x1_1)] → f_X3_clear_L2 FU  k_3 n x1_1 c_a_2 = some c_a' → WW p l e (rmq 0 0) s m args below meth c Q H locs 2 ls [] := by
      intro n
      induction n with
      | zero => intro x1_1 c_a_2 H locs ls hP hD hS hl h; rw [f_X3_clear_L2] at h; cases h
      | succ n ih =>
        intro x1_1 c_a_2 H locs ls hP hD hS hl h
        rw [f_X3_clear_L2] at h
        refine lv_iload_n hx hb dX3_clear_2 rfl (lv_at hl 1 rfl) ?_
        refine lv_bipush (v := 16) hx hb dX3_clear_3 (by decide) ?_
        refine lv_icmp_ge (tgt := 18) hx hb dX3_clear_5 (by decide) (fun q_7 => ?_) (fun q_7 => ?_)
        · have h := it_t q_7 h
          exact K_4 x1_1 c_a_2 _ _ _ hP hD hS (lv_sub hl [] rfl) h
        · have h := it_f q_7 h
          refine lv_aload_n hx hb dX3_clear_8 rfl (lv_at hl 0 rfl) ?_
          refine lv_iload_n hx hb dX3_clear_9 rfl (lv_at hl 1 rfl) ?_
          refine lv_iconst (v := 0) hx hb dX3_clear_10 (by decide) ?_
          refine r_iast hx hb hK hP hD hS 0 rfl dX3_clear_11 h (fun c_a_6 H locs hP hD hS h => ?_)
          have hP : VP G ([(a0, .inl (kc 0, 16, .inl c_a_6))]) H := hP
          have hD : va_D A ([(a0, .inl (kc 0, 16, .inl c_a_6))]) := hD
          refine lv_iinc (v := (x1_1 + 1)) (lv' := [(1, .int (x1_1 + 1)), (0, .ref a0)]) hx hb dX3_clear_12 hl (k := 1) rfl rfl (by decide) rfl (fun ls hl => ?_)
          refine lv_goto (tgt := 2) hx hb dX3_clear_15 (by decide) ?_
          exact ih (x1_1 + 1) c_a_6 _ _ _ hP hD hS (lv_sub hl [1, 0] rfl) h
    exact L_5 FU 0 c_a _ _ _ hP hD hS (lv_sub hl [1, 0] rfl) h
set_option maxHeartbeats 1000000 in
set_option maxRecDepth 100000 in
theorem c_X3_spreadOnce (l : Launch) (G : va_G) (kc : Nat → ClassId) (a0 : Nat) (a1 : Nat) {c_a : (Nat → Int32)} {c_b : (Nat → Int32)}  {r : Int32} {c_a' : (Nat → Int32)} {FU : Nat} (h : f_X3_spreadOnce FU c_a c_b = some (r, c_a')) : CTi l G kc yX3_spreadOnce cX3_spreadOnce 8 (some .boolean) (rmq 0 0) [.ref a0, .ref a1] ([(a0, .inl (kc 0, 16, .inl c_a)), (a1, .inl (kc 0, 16, .inl c_b))]) ([(a0, .inl (kc 0, 16, .inl (c_a'))), (a1, .inl (kc 0, 16, .inl c_b))]) r := by
  refine CTi.mk (by decide) (Nat.le_of_ble_eq_true rfl) ?_
  intro p e s m args below meth c A ls Q hQ S hr hlocks hN hA hK hl hP hD hS
  have hx := S.1
  have hb := S.2.1
  have hl : lv_has ls 8 [(0, .ref a0), (1, .ref a1)] := hl
  unfold f_X3_spreadOnce at h
  refine lv_iconst (v := 0) hx hb dX3_spreadOnce_0 (by decide) ?_
  refine lv_istore_n (lv' := [(2, .int 0), (0, .ref a0), (1, .ref a1)]) hx hb dX3_spreadOnce_1 rfl hl (by decide) rfl (fun ls hl => ?_)
  refine lv_iconst (v := 0) hx hb dX3_spreadOnce_2 (by decide) ?_
  refine lv_istore_n (lv' := [(3, .int 0), (2, .int 0), (0, .ref a0), (1, .ref a1)]) hx hb dX3_spreadOnce_3 rfl hl (by decide) rfl (fun ls hl => ?_)
  refine jn_w (t := fun k => f_X3_spreadOnce_L4 FU c_b k FU 0 0 c_a) (fun (k : Int32 → Int32 → (Nat → Int32) → Option (Int32 × (Nat → Int32))) => ∀ (x2_1 : Int32) (x3_2 : Int32) (c_a_3 : (Nat → Int32)) (H : Heap) (locs : List Loc) (ls : Array Slot), VP G ([(a0, .inl (kc 0, 16, .inl c_a_3)), (a1, .inl (kc 0, 16, .inl c_b))]) H → va_D A ([(a0, .inl (kc 0, 16, .inl c_a_3)), (a1, .inl (kc 0, 16, .inl c_b))]) → va_S A s.heap H locs → lv_has ls 8 [(2, .int x2_1)] → k x2_1 x3_2 c_a_3 = some (r, c_a') → WW p l e (rmq 0 0) s m args below meth c Q H locs 104 ls []) h ?_ ?_
  · intro x2_1 x3_2 c_a_3 H locs ls hP hD hS hl h
    refine lv_iload_n hx hb dX3_spreadOnce_104 rfl (lv_at hl 0 rfl) ?_
    obtain ⟨hz, h⟩ := rz_e h
    cases h
    exact ret_i hx hb hr hz hQ hlocks hK hP hD hS dX3_spreadOnce_105
  · intro k_4 K_5 h
    have L_6 : ∀ (n : Nat) (x2_1 : Int32) (x3_2 : Int32) (c_a_3 : (Nat → Int32)) (H : Heap) (locs : List Loc) (ls : Array Slot), VP G ([(a0, .inl (kc 0, 16, .inl c_a_3)), (a1, .inl (kc 0, 16, .inl c_b))]) H → va_D A ([(a0, .inl (kc 0, 16, .inl c_a_3)), (a1, .inl (kc 0, 16, .inl c_b))]) → va_S A s.heap H locs → lv_has ls 8 [(0, .ref a0), (1, .ref a1), (2, .int x2_1), (3, .int x3_2)] → f_X3_spreadOnce_L4 FU c_b k_4 n x2_1 x3_2 c_a_3 = some (r, c_a') → WW p l e (rmq 0 0) s m args below meth c Q H locs 4 ls [] := by
      intro n
      induction n with
      | zero => intro x2_1 x3_2 c_a_3 H locs ls hP hD hS hl h; rw [f_X3_spreadOnce_L4] at h; cases h
      | succ n ih =>
        intro x2_1 x3_2 c_a_3 H locs ls hP hD hS hl h
        rw [f_X3_spreadOnce_L4] at h
        refine lv_iload_n hx hb dX3_spreadOnce_4 rfl (lv_at hl 3 rfl) ?_
        refine lv_bipush (v := 16) hx hb dX3_spreadOnce_5 (by decide) ?_
        refine lv_icmp_ge (tgt := 104) hx hb dX3_spreadOnce_7 (by decide) (fun q_29 => ?_) (fun q_29 => ?_)
        · have h := it_t q_29 h
          exact K_5 x2_1 x3_2 c_a_3 _ _ _ hP hD hS (lv_sub hl [2] rfl) h
        · have h := it_f q_29 h
          refine lv_aload_n hx hb dX3_spreadOnce_10 rfl (lv_at hl 0 rfl) ?_
          refine lv_iload_n hx hb dX3_spreadOnce_11 rfl (lv_at hl 3 rfl) ?_
          refine r_iald hx hb hK hP 0 rfl dX3_spreadOnce_12 h (fun y_8 h => ?_)
          refine lv_iconst (v := 1) hx hb dX3_spreadOnce_13 (by decide) ?_
          refine lv_ishl hx hb dX3_spreadOnce_14 ?_
          refine lv_aload_n hx hb dX3_spreadOnce_15 rfl (lv_at hl 0 rfl) ?_
          refine lv_iload_n hx hb dX3_spreadOnce_16 rfl (lv_at hl 3 rfl) ?_
          refine r_iald hx hb hK hP 0 rfl dX3_spreadOnce_17 h (fun y_9 h => ?_)
          refine lv_iconst (v := 1) hx hb dX3_spreadOnce_18 (by decide) ?_
          refine lv_ishr hx hb dX3_spreadOnce_19 ?_
          refine lv_ior hx hb dX3_spreadOnce_20 ?_
          refine lv_istore (lv' := [(4, .int ((y_8 <<< (1 &&& 31)) ||| (y_9 >>> (1 &&& 31)))), (0, .ref a0), (1, .ref a1), (2, .int x2_1), (3, .int x3_2)]) hx hb dX3_spreadOnce_21 hl (by decide) rfl (fun ls hl => ?_)
          refine lv_iload_n hx hb dX3_spreadOnce_23 rfl (lv_at hl 4 rfl) ?_
          refine jn_w (fun (k : Int32 → Option (Int32 × (Nat → Int32))) => ∀ (t_10 : Int32) (H : Heap) (locs : List Loc) (ls : Array Slot), VP G ([(a0, .inl (kc 0, 16, .inl c_a_3)), (a1, .inl (kc 0, 16, .inl c_b))]) H → va_D A ([(a0, .inl (kc 0, 16, .inl c_a_3)), (a1, .inl (kc 0, 16, .inl c_b))]) → va_S A s.heap H locs → lv_has ls 8 [(0, .ref a0), (1, .ref a1), (2, .int x2_1), (3, .int x3_2), (4, .int ((y_8 <<< (1 &&& 31)) ||| (y_9 >>> (1 &&& 31))))] → k t_10 = some (r, c_a') → WW p l e (rmq 0 0) s m args below meth c Q H locs 36 ls [.int t_10]) h ?_ ?_
          · intro t_10 H locs ls hP hD hS hl h
            refine lv_istore (lv' := [(5, .int t_10), (0, .ref a0), (1, .ref a1), (2, .int x2_1), (3, .int x3_2), (4, .int ((y_8 <<< (1 &&& 31)) ||| (y_9 >>> (1 &&& 31))))]) hx hb dX3_spreadOnce_36 hl (by decide) rfl (fun ls hl => ?_)
            refine lv_iload_n hx hb dX3_spreadOnce_38 rfl (lv_at hl 4 rfl) ?_
            refine lv_bipush (v := 15) hx hb dX3_spreadOnce_39 (by decide) ?_
            refine jn_w (fun (k : Int32 → Option (Int32 × (Nat → Int32))) => ∀ (t_13 : Int32) (H : Heap) (locs : List Loc) (ls : Array Slot), VP G ([(a0, .inl (kc 0, 16, .inl c_a_3)), (a1, .inl (kc 0, 16, .inl c_b))]) H → va_D A ([(a0, .inl (kc 0, 16, .inl c_a_3)), (a1, .inl (kc 0, 16, .inl c_b))]) → va_S A s.heap H locs → lv_has ls 8 [(0, .ref a0), (1, .ref a1), (2, .int x2_1), (3, .int x3_2), (4, .int ((y_8 <<< (1 &&& 31)) ||| (y_9 >>> (1 &&& 31)))), (5, .int t_10)] → k t_13 = some (r, c_a') → WW p l e (rmq 0 0) s m args below meth c Q H locs 53 ls [.int t_13]) h ?_ ?_
            · intro t_13 H locs ls hP hD hS hl h
              refine lv_istore (lv' := [(6, .int t_13), (0, .ref a0), (1, .ref a1), (2, .int x2_1), (3, .int x3_2), (4, .int ((y_8 <<< (1 &&& 31)) ||| (y_9 >>> (1 &&& 31)))), (5, .int t_10)]) hx hb dX3_spreadOnce_53 hl (by decide) rfl (fun ls hl => ?_)
              refine lv_iload hx hb dX3_spreadOnce_55 (lv_at hl 5 rfl) ?_
              refine lv_iload hx hb dX3_spreadOnce_57 (lv_at hl 6 rfl) ?_
              refine lv_ior hx hb dX3_spreadOnce_59 ?_
              refine lv_iload hx hb dX3_spreadOnce_60 (lv_at hl 0 rfl) ?_
              refine lv_ior hx hb dX3_spreadOnce_62 ?_
              refine lv_aload_n hx hb dX3_spreadOnce_63 rfl (lv_at hl 2 rfl) ?_
              refine lv_iload_n hx hb dX3_spreadOnce_64 rfl (lv_at hl 4 rfl) ?_
              refine r_iald hx hb hK hP 1 rfl dX3_spreadOnce_65 h (fun y_16 h => ?_)
              refine lv_iand hx hb dX3_spreadOnce_66 ?_
              refine lv_aload_n hx hb dX3_spreadOnce_67 rfl (lv_at hl 1 rfl) ?_
              refine lv_iload_n hx hb dX3_spreadOnce_68 rfl (lv_at hl 4 rfl) ?_
              refine r_iald hx hb hK hP 0 rfl dX3_spreadOnce_69 h (fun y_17 h => ?_)
              refine lv_iconst (v := (-1)) hx hb dX3_spreadOnce_70 (by decide) ?_
              refine lv_ixor hx hb dX3_spreadOnce_71 ?_
              refine lv_iand hx hb dX3_spreadOnce_72 ?_
              refine lv_istore (lv' := [(7, .int ((((((y_8 <<< (1 &&& 31)) ||| (y_9 >>> (1 &&& 31))) ||| t_10) ||| t_13) &&& y_16) &&& (y_17 ^^^ (-1)))), (6, .int t_13), (0, .ref a0), (1, .ref a1), (2, .int x2_1), (3, .int x3_2), (4, .int ((y_8 <<< (1 &&& 31)) ||| (y_9 >>> (1 &&& 31)))), (5, .int t_10)]) hx hb dX3_spreadOnce_73 hl (by decide) rfl (fun ls hl => ?_)
              refine lv_aload_n hx hb dX3_spreadOnce_75 rfl (lv_at hl 2 rfl) ?_
              refine lv_iload_n hx hb dX3_spreadOnce_76 rfl (lv_at hl 5 rfl) ?_
              refine lv_dup2_11 hx hb dX3_spreadOnce_77 rfl rfl ?_
              refine r_iald hx hb hK hP 0 rfl dX3_spreadOnce_78 h (fun y_18 h => ?_)
              refine lv_iload hx hb dX3_spreadOnce_79 (lv_at hl 0 rfl) ?_
              refine lv_ior hx hb dX3_spreadOnce_81 ?_
              refine r_iast hx hb hK hP hD hS 0 rfl dX3_spreadOnce_82 h (fun c_a_19 H locs hP hD hS h => ?_)
              have hP : VP G ([(a0, .inl (kc 0, 16, .inl c_a_19)), (a1, .inl (kc 0, 16, .inl c_b))]) H := hP
              have hD : va_D A ([(a0, .inl (kc 0, 16, .inl c_a_19)), (a1, .inl (kc 0, 16, .inl c_b))]) := hD
              refine lv_iload_n hx hb dX3_spreadOnce_83 rfl (lv_at hl 4 rfl) ?_
              refine jn_w (fun (k : Int32 → Option (Int32 × (Nat → Int32))) => ∀ (t_20 : Int32) (H : Heap) (locs : List Loc) (ls : Array Slot), VP G ([(a0, .inl (kc 0, 16, .inl c_a_19)), (a1, .inl (kc 0, 16, .inl c_b))]) H → va_D A ([(a0, .inl (kc 0, 16, .inl c_a_19)), (a1, .inl (kc 0, 16, .inl c_b))]) → va_S A s.heap H locs → lv_has ls 8 [(0, .ref a0), (1, .ref a1), (3, .int x3_2)] → k t_20 = some (r, c_a') → WW p l e (rmq 0 0) s m args below meth c Q H locs 97 ls [.int t_20]) h ?_ ?_
              · intro t_20 H locs ls hP hD hS hl h
                refine lv_istore_n (lv' := [(2, .int t_20), (0, .ref a0), (1, .ref a1), (3, .int x3_2)]) hx hb dX3_spreadOnce_97 rfl hl (by decide) rfl (fun ls hl => ?_)
                refine lv_iinc (v := (x3_2 + 1)) (lv' := [(3, .int (x3_2 + 1)), (2, .int t_20), (0, .ref a0), (1, .ref a1)]) hx hb dX3_spreadOnce_98 hl (k := 3) rfl rfl (by decide) rfl (fun ls hl => ?_)
                refine lv_goto (tgt := 4) hx hb dX3_spreadOnce_101 (by decide) ?_
                exact ih t_20 (x3_2 + 1) c_a_19 _ _ _ hP hD hS (lv_sub hl [2, 3, 1, 0] rfl) h
              · intro j_21 J_22 h
                refine lv_if_ne (tgt := 92) hx hb dX3_spreadOnce_84 (by decide) (fun q_24 => ?_) (fun q_24 => ?_)
                · have h := it_f q_24 h
                  refine lv_iconst (v := 1) hx hb dX3_spreadOnce_92 (by decide) ?_
                  refine lv_goto (tgt := 97) hx hb dX3_spreadOnce_93 (by decide) ?_
                  exact J_22 1 _ _ _ hP hD hS (lv_sub hl [2, 3, 5] rfl) h
                · have h := it_t q_24 h
                  refine lv_iload hx hb dX3_spreadOnce_87 (lv_at hl 0 rfl) ?_
                  refine lv_if_eq (tgt := 96) hx hb dX3_spreadOnce_89 (by decide) (fun q_23 => ?_) (fun q_23 => ?_)
                  · have h := it_t q_23 h
                    refine lv_iconst (v := 0) hx hb dX3_spreadOnce_96 (by decide) ?_
                    exact J_22 0 _ _ _ hP hD hS (lv_sub hl [2, 3, 5] rfl) h
                  · have h := it_f q_23 h
                    refine lv_iconst (v := 1) hx hb dX3_spreadOnce_92 (by decide) ?_
                    refine lv_goto (tgt := 97) hx hb dX3_spreadOnce_93 (by decide) ?_
                    exact J_22 1 _ _ _ hP hD hS (lv_sub hl [2, 3, 5] rfl) h
            · intro j_14 J_15 h
              refine lv_icmp_ge (tgt := 52) hx hb dX3_spreadOnce_41 (by decide) (fun q_26 => ?_) (fun q_26 => ?_)
              · have h := it_t q_26 h
                refine lv_iconst (v := 0) hx hb dX3_spreadOnce_52 (by decide) ?_
                exact J_15 0 _ _ _ hP hD hS (lv_sub hl [1, 2, 3, 4, 5, 0] rfl) h
              · have h := it_f q_26 h
                refine lv_aload_n hx hb dX3_spreadOnce_44 rfl (lv_at hl 1 rfl) ?_
                refine lv_iload_n hx hb dX3_spreadOnce_45 rfl (lv_at hl 4 rfl) ?_
                refine lv_iconst (v := 1) hx hb dX3_spreadOnce_46 (by decide) ?_
                refine lv_iadd hx hb dX3_spreadOnce_47 ?_
                refine r_iald hx hb hK hP 0 rfl dX3_spreadOnce_48 h (fun y_25 h => ?_)
                refine lv_goto (tgt := 53) hx hb dX3_spreadOnce_49 (by decide) ?_
                exact J_15 y_25 _ _ _ hP hD hS (lv_sub hl [1, 2, 3, 4, 5, 0] rfl) h
          · intro j_11 J_12 h
            refine lv_if_le (tgt := 35) hx hb dX3_spreadOnce_24 (by decide) (fun q_28 => ?_) (fun q_28 => ?_)
            · have h := it_t q_28 h
              refine lv_iconst (v := 0) hx hb dX3_spreadOnce_35 (by decide) ?_
              exact J_12 0 _ _ _ hP hD hS (lv_sub hl [1, 2, 3, 4, 0] rfl) h
            · have h := it_f q_28 h
              refine lv_aload_n hx hb dX3_spreadOnce_27 rfl (lv_at hl 1 rfl) ?_
              refine lv_iload_n hx hb dX3_spreadOnce_28 rfl (lv_at hl 4 rfl) ?_
              refine lv_iconst (v := 1) hx hb dX3_spreadOnce_29 (by decide) ?_
              refine lv_isub hx hb dX3_spreadOnce_30 ?_
              refine r_iald hx hb hK hP 0 rfl dX3_spreadOnce_31 h (fun y_27 h => ?_)
              refine lv_goto (tgt := 36) hx hb dX3_spreadOnce_32 (by decide) ?_
              exact J_12 y_27 _ _ _ hP hD hS (lv_sub hl [1, 2, 3, 4, 0] rfl) h
    exact L_6 FU 0 0 c_a _ _ _ hP hD hS (lv_sub hl [2, 3, 1, 0] rfl) h
set_option maxHeartbeats 1000000 in
set_option maxRecDepth 100000 in
theorem c_X3_spread (l : Launch) (G : va_G) (kc : Nat → ClassId) (a0 : Nat) (a1 : Nat) {c_a : (Nat → Int32)} {c_b : (Nat → Int32)}  {c_a' : (Nat → Int32)} {FU : Nat} (h : f_X3_spread FU c_a c_b = some c_a') : CTv l G kc yX3_spread cX3_spread 4 none (rmq 1 27) [.ref a0, .ref a1] ([(a0, .inl (kc 0, 16, .inl c_a)), (a1, .inl (kc 0, 16, .inl c_b))]) ([(a0, .inl (kc 0, 16, .inl (c_a'))), (a1, .inl (kc 0, 16, .inl c_b))]) := by
  refine CTv.mk (by decide) (Nat.le_of_ble_eq_true rfl) ?_
  intro p e s m args below meth c A ls Q hQ S hr hlocks hN hA hK hl hP hD hS
  have hx := S.1
  have hb := S.2.1
  have hl : lv_has ls 4 [(0, .ref a0), (1, .ref a1)] := hl
  unfold f_X3_spread at h
  refine lv_iconst (v := 1) hx hb dX3_spread_0 (by decide) ?_
  refine lv_istore_n (lv' := [(2, .int 1), (0, .ref a0), (1, .ref a1)]) hx hb dX3_spread_1 rfl hl (by decide) rfl (fun ls hl => ?_)
  refine lv_iconst (v := 0) hx hb dX3_spread_2 (by decide) ?_
  refine lv_istore_n (lv' := [(3, .int 0), (2, .int 1), (0, .ref a0), (1, .ref a1)]) hx hb dX3_spread_3 rfl hl (by decide) rfl (fun ls hl => ?_)
  refine jn_w (t := fun k => f_X3_spread_L4 FU c_b k FU 1 0 c_a) (fun (k : Int32 → Int32 → (Nat → Int32) → Option ((Nat → Int32))) => ∀ (x2_1 : Int32) (x3_2 : Int32) (c_a_3 : (Nat → Int32)) (H : Heap) (locs : List Loc) (ls : Array Slot), VP G ([(a0, .inl (kc 0, 16, .inl c_a_3)), (a1, .inl (kc 0, 16, .inl c_b))]) H → va_D A ([(a0, .inl (kc 0, 16, .inl c_a_3)), (a1, .inl (kc 0, 16, .inl c_b))]) → va_S A s.heap H locs → lv_has ls 4 [] → k x2_1 x3_2 c_a_3 = some c_a' → WW p l e (rmq 1 27) s m args below meth c Q H locs 27 ls []) h ?_ ?_
  · intro x2_1 x3_2 c_a_3 H locs ls hP hD hS hl h
    cases h
    exact ret_v hx hb hr hQ hlocks hK hP hD hS dX3_spread_27
  · intro k_4 K_5 h
    have L_6 : ∀ (n : Nat) (x2_1 : Int32) (x3_2 : Int32) (c_a_3 : (Nat → Int32)) (H : Heap) (locs : List Loc) (ls : Array Slot), VP G ([(a0, .inl (kc 0, 16, .inl c_a_3)), (a1, .inl (kc 0, 16, .inl c_b))]) H → va_D A ([(a0, .inl (kc 0, 16, .inl c_a_3)), (a1, .inl (kc 0, 16, .inl c_b))]) → va_S A s.heap H locs → lv_has ls 4 [(0, .ref a0), (1, .ref a1), (2, .int x2_1), (3, .int x3_2)] → f_X3_spread_L4 FU c_b k_4 n x2_1 x3_2 c_a_3 = some c_a' → WW p l e (rmq 1 27) s m args below meth c Q H locs 4 ls [] := by
      intro n
      induction n with
      | zero => intro x2_1 x3_2 c_a_3 H locs ls hP hD hS hl h; rw [f_X3_spread_L4] at h; cases h
      | succ n ih =>
        intro x2_1 x3_2 c_a_3 H locs ls hP hD hS hl h
        rw [f_X3_spread_L4] at h
        refine lv_iload_n hx hb dX3_spread_4 rfl (lv_at hl 3 rfl) ?_
        refine lv_sipush (v := 256) hx hb dX3_spread_5 (by decide) ?_
        refine lv_icmp_ge (tgt := 27) hx hb dX3_spread_8 (by decide) (fun q_10 => ?_) (fun q_10 => ?_)
        · have h := it_t q_10 h
          exact K_5 x2_1 x3_2 c_a_3 _ _ _ hP hD hS (lv_sub hl [] rfl) h
        · have h := it_f q_10 h
          refine lv_iload_n hx hb dX3_spread_11 rfl (lv_at hl 2 rfl) ?_
          refine lv_if_eq (tgt := 27) hx hb dX3_spread_12 (by decide) (fun q_9 => ?_) (fun q_9 => ?_)
          · have h := it_t q_9 h
            exact K_5 x2_1 x3_2 c_a_3 _ _ _ hP hD hS (lv_sub hl [] rfl) h
          · have h := it_f q_9 h
            refine lv_aload_n hx hb dX3_spread_15 rfl (lv_at hl 0 rfl) ?_
            refine lv_aload_n hx hb dX3_spread_16 rfl (lv_at hl 1 rfl) ?_
            obtain ⟨r_7, g_8, hq, h⟩ := bd2_e h
            refine cp_Si (rest := []) [0, 1] S hN cb_X3_spreadOnce ml_X3_15 ⟨Nat.le_of_ble_eq_true rfl, Nat.le_of_ble_eq_true rfl⟩ (c_X3_spreadOnce l G kc a0 a1  hq) hK hP hD hS hA rfl rfl rfl rfl rfl (Nat.le_of_ble_eq_true rfl) hl.1 dX3_spread_17 (fun H locs hP hD hS => ?_)
            have hP : VP G ([(a0, .inl (kc 0, 16, .inl g_8)), (a1, .inl (kc 0, 16, .inl c_b))]) H := hP
            have hD : va_D A ([(a0, .inl (kc 0, 16, .inl g_8)), (a1, .inl (kc 0, 16, .inl c_b))]) := hD
            refine lv_istore_n (lv' := [(2, .int r_7), (0, .ref a0), (1, .ref a1), (3, .int x3_2)]) hx hb dX3_spread_20 rfl hl (by decide) rfl (fun ls hl => ?_)
            refine lv_iinc (v := (x3_2 + 1)) (lv' := [(3, .int (x3_2 + 1)), (2, .int r_7), (0, .ref a0), (1, .ref a1)]) hx hb dX3_spread_21 hl (k := 3) rfl rfl (by decide) rfl (fun ls hl => ?_)
            refine lv_goto (tgt := 4) hx hb dX3_spread_24 (by decide) ?_
            exact ih r_7 (x3_2 + 1) g_8 _ _ _ hP hD hS (lv_sub hl [2, 3, 1, 0] rfl) h
    exact L_6 FU 1 0 c_a _ _ _ hP hD hS (lv_sub hl [2, 3, 1, 0] rfl) h
set_option maxHeartbeats 1000000 in
set_option maxRecDepth 100000 in
theorem c_J6_bitCount_0f7a4 (l : Launch) (G : va_G) (kc : Nat → ClassId)   (x0 : Int32) {r : Int32} {FU : Nat} (h : f_J6_bitCount_0f7a4 FU x0 = some r) : CTi l G kc yJ6_bitCount_0f7a4 cJ6_bitCount_0f7a4 1 (some .int) (rmq 0 0) [.int x0] ([]) ([]) r := by
  refine CTi.mk (by decide) (Nat.le_of_ble_eq_true rfl) ?_
  intro p e s m args below meth c A ls Q hQ S hr hlocks hN hA hK hl hP hD hS
  have hx := S.1
  have hb := S.2.1
  have hl : lv_has ls 1 [(0, .int x0)] := hl
  unfold f_J6_bitCount_0f7a4 at h
  refine lv_iload_n hx hb dJ6_bitCount_0f7a4_0 rfl (lv_at hl 0 rfl) ?_
  refine lv_iload_n hx hb dJ6_bitCount_0f7a4_1 rfl (lv_at hl 0 rfl) ?_
  refine lv_iconst (v := 1) hx hb dJ6_bitCount_0f7a4_2 (by decide) ?_
  refine lv_iushr hx hb dJ6_bitCount_0f7a4_3 rfl ?_
  refine lv_ldcw hx hb S.2.2.2.1 (S.2.2.2.2 _ kn_J6_265) dJ6_bitCount_0f7a4_4 ?_
  refine lv_iand hx hb dJ6_bitCount_0f7a4_7 ?_
  refine lv_isub hx hb dJ6_bitCount_0f7a4_8 ?_
  refine lv_istore_n (lv' := [(0, .int (x0 - (((x0).toUInt32 >>> (((1 : Int32)).toUInt32 &&& Int32.toUInt32 31)).toInt32 &&& 1431655765)))]) hx hb dJ6_bitCount_0f7a4_9 rfl hl (by decide) rfl (fun ls hl => ?_)
  refine lv_iload_n hx hb dJ6_bitCount_0f7a4_10 rfl (lv_at hl 0 rfl) ?_
  refine lv_ldcw hx hb S.2.2.2.1 (S.2.2.2.2 _ kn_J6_266) dJ6_bitCount_0f7a4_11 ?_
  refine lv_iand hx hb dJ6_bitCount_0f7a4_14 ?_
  refine lv_iload_n hx hb dJ6_bitCount_0f7a4_15 rfl (lv_at hl 0 rfl) ?_
  refine lv_iconst (v := 2) hx hb dJ6_bitCount_0f7a4_16 (by decide) ?_
  refine lv_iushr hx hb dJ6_bitCount_0f7a4_17 rfl ?_
  refine lv_ldcw hx hb S.2.2.2.1 (S.2.2.2.2 _ kn_J6_266) dJ6_bitCount_0f7a4_18 ?_
  refine lv_iand hx hb dJ6_bitCount_0f7a4_21 ?_
  refine lv_iadd hx hb dJ6_bitCount_0f7a4_22 ?_
  refine lv_istore_n (lv' := [(0, .int (((x0 - (((x0).toUInt32 >>> (((1 : Int32)).toUInt32 &&& Int32.toUInt32 31)).toInt32 &&& 1431655765)) &&& 858993459) + ((((x0 - (((x0).toUInt32 >>> (((1 : Int32)).toUInt32 &&& Int32.toUInt32 31)).toInt32 &&& 1431655765))).toUInt32 >>> (((2 : Int32)).toUInt32 &&& Int32.toUInt32 31)).toInt32 &&& 858993459)))]) hx hb dJ6_bitCount_0f7a4_23 rfl hl (by decide) rfl (fun ls hl => ?_)
  refine lv_iload_n hx hb dJ6_bitCount_0f7a4_24 rfl (lv_at hl 0 rfl) ?_
  refine lv_iload_n hx hb dJ6_bitCount_0f7a4_25 rfl (lv_at hl 0 rfl) ?_
  refine lv_iconst (v := 4) hx hb dJ6_bitCount_0f7a4_26 (by decide) ?_
  refine lv_iushr hx hb dJ6_bitCount_0f7a4_27 rfl ?_
  refine lv_iadd hx hb dJ6_bitCount_0f7a4_28 ?_
  refine lv_ldcw hx hb S.2.2.2.1 (S.2.2.2.2 _ kn_J6_267) dJ6_bitCount_0f7a4_29 ?_
  refine lv_iand hx hb dJ6_bitCount_0f7a4_32 ?_
  refine lv_istore_n (lv' := [(0, .int (((((x0 - (((x0).toUInt32 >>> (((1 : Int32)).toUInt32 &&& Int32.toUInt32 31)).toInt32 &&& 1431655765)) &&& 858993459) + ((((x0 - (((x0).toUInt32 >>> (((1 : Int32)).toUInt32 &&& Int32.toUInt32 31)).toInt32 &&& 1431655765))).toUInt32 >>> (((2 : Int32)).toUInt32 &&& Int32.toUInt32 31)).toInt32 &&& 858993459)) + (((((x0 - (((x0).toUInt32 >>> (((1 : Int32)).toUInt32 &&& Int32.toUInt32 31)).toInt32 &&& 1431655765)) &&& 858993459) + ((((x0 - (((x0).toUInt32 >>> (((1 : Int32)).toUInt32 &&& Int32.toUInt32 31)).toInt32 &&& 1431655765))).toUInt32 >>> (((2 : Int32)).toUInt32 &&& Int32.toUInt32 31)).toInt32 &&& 858993459))).toUInt32 >>> (((4 : Int32)).toUInt32 &&& Int32.toUInt32 31)).toInt32) &&& 252645135))]) hx hb dJ6_bitCount_0f7a4_33 rfl hl (by decide) rfl (fun ls hl => ?_)
  refine lv_iload_n hx hb dJ6_bitCount_0f7a4_34 rfl (lv_at hl 0 rfl) ?_
  refine lv_iload_n hx hb dJ6_bitCount_0f7a4_35 rfl (lv_at hl 0 rfl) ?_
  refine lv_bipush (v := 8) hx hb dJ6_bitCount_0f7a4_36 (by decide) ?_
  refine lv_iushr hx hb dJ6_bitCount_0f7a4_38 rfl ?_
  refine lv_iadd hx hb dJ6_bitCount_0f7a4_39 ?_
  refine lv_istore_n (lv' := [(0, .int ((((((x0 - (((x0).toUInt32 >>> (((1 : Int32)).toUInt32 &&& Int32.toUInt32 31)).toInt32 &&& 1431655765)) &&& 858993459) + ((((x0 - (((x0).toUInt32 >>> (((1 : Int32)).toUInt32 &&& Int32.toUInt32 31)).toInt32 &&& 1431655765))).toUInt32 >>> (((2 : Int32)).toUInt32 &&& Int32.toUInt32 31)).toInt32 &&& 858993459)) + (((((x0 - (((x0).toUInt32 >>> (((1 : Int32)).toUInt32 &&& Int32.toUInt32 31)).toInt32 &&& 1431655765)) &&& 858993459) + ((((x0 - (((x0).toUInt32 >>> (((1 : Int32)).toUInt32 &&& Int32.toUInt32 31)).toInt32 &&& 1431655765))).toUInt32 >>> (((2 : Int32)).toUInt32 &&& Int32.toUInt32 31)).toInt32 &&& 858993459))).toUInt32 >>> (((4 : Int32)).toUInt32 &&& Int32.toUInt32 31)).toInt32) &&& 252645135) + (((((((x0 - (((x0).toUInt32 >>> (((1 : Int32)).toUInt32 &&& Int32.toUInt32 31)).toInt32 &&& 1431655765)) &&& 858993459) + ((((x0 - (((x0).toUInt32 >>> (((1 : Int32)).toUInt32 &&& Int32.toUInt32 31)).toInt32 &&& 1431655765))).toUInt32 >>> (((2 : Int32)).toUInt32 &&& Int32.toUInt32 31)).toInt32 &&& 858993459)) + (((((x0 - (((x0).toUInt32 >>> (((1 : Int32)).toUInt32 &&& Int32.toUInt32 31)).toInt32 &&& 1431655765)) &&& 858993459) + ((((x0 - (((x0).toUInt32 >>> (((1 : Int32)).toUInt32 &&& Int32.toUInt32 31)).toInt32 &&& 1431655765))).toUInt32 >>> (((2 : Int32)).toUInt32 &&& Int32.toUInt32 31)).toInt32 &&& 858993459))).toUInt32 >>> (((4 : Int32)).toUInt32 &&& Int32.toUInt32 31)).toInt32) &&& 252645135)).toUInt32 >>> (((8 : Int32)).toUInt32 &&& Int32.toUInt32 31)).toInt32))]) hx hb dJ6_bitCount_0f7a4_40 rfl hl (by decide) rfl (fun ls hl => ?_)
  refine lv_iload_n hx hb dJ6_bitCount_0f7a4_41 rfl (lv_at hl 0 rfl) ?_
  refine lv_iload_n hx hb dJ6_bitCount_0f7a4_42 rfl (lv_at hl 0 rfl) ?_
  refine lv_bipush (v := 16) hx hb dJ6_bitCount_0f7a4_43 (by decide) ?_
  refine lv_iushr hx hb dJ6_bitCount_0f7a4_45 rfl ?_
  refine lv_iadd hx hb dJ6_bitCount_0f7a4_46 ?_
  refine lv_istore_n (lv' := [(0, .int (((((((x0 - (((x0).toUInt32 >>> (((1 : Int32)).toUInt32 &&& Int32.toUInt32 31)).toInt32 &&& 1431655765)) &&& 858993459) + ((((x0 - (((x0).toUInt32 >>> (((1 : Int32)).toUInt32 &&& Int32.toUInt32 31)).toInt32 &&& 1431655765))).toUInt32 >>> (((2 : Int32)).toUInt32 &&& Int32.toUInt32 31)).toInt32 &&& 858993459)) + (((((x0 - (((x0).toUInt32 >>> (((1 : Int32)).toUInt32 &&& Int32.toUInt32 31)).toInt32 &&& 1431655765)) &&& 858993459) + ((((x0 - (((x0).toUInt32 >>> (((1 : Int32)).toUInt32 &&& Int32.toUInt32 31)).toInt32 &&& 1431655765))).toUInt32 >>> (((2 : Int32)).toUInt32 &&& Int32.toUInt32 31)).toInt32 &&& 858993459))).toUInt32 >>> (((4 : Int32)).toUInt32 &&& Int32.toUInt32 31)).toInt32) &&& 252645135) + (((((((x0 - (((x0).toUInt32 >>> (((1 : Int32)).toUInt32 &&& Int32.toUInt32 31)).toInt32 &&& 1431655765)) &&& 858993459) + ((((x0 - (((x0).toUInt32 >>> (((1 : Int32)).toUInt32 &&& Int32.toUInt32 31)).toInt32 &&& 1431655765))).toUInt32 >>> (((2 : Int32)).toUInt32 &&& Int32.toUInt32 31)).toInt32 &&& 858993459)) + (((((x0 - (((x0).toUInt32 >>> (((1 : Int32)).toUInt32 &&& Int32.toUInt32 31)).toInt32 &&& 1431655765)) &&& 858993459) + ((((x0 - (((x0).toUInt32 >>> (((1 : Int32)).toUInt32 &&& Int32.toUInt32 31)).toInt32 &&& 1431655765))).toUInt32 >>> (((2 : Int32)).toUInt32 &&& Int32.toUInt32 31)).toInt32 &&& 858993459))).toUInt32 >>> (((4 : Int32)).toUInt32 &&& Int32.toUInt32 31)).toInt32) &&& 252645135)).toUInt32 >>> (((8 : Int32)).toUInt32 &&& Int32.toUInt32 31)).toInt32) + ((((((((x0 - (((x0).toUInt32 >>> (((1 : Int32)).toUInt32 &&& Int32.toUInt32 31)).toInt32 &&& 1431655765)) &&& 858993459) + ((((x0 - (((x0).toUInt32 >>> (((1 : Int32)).toUInt32 &&& Int32.toUInt32 31)).toInt32 &&& 1431655765))).toUInt32 >>> (((2 : Int32)).toUInt32 &&& Int32.toUInt32 31)).toInt32 &&& 858993459)) + (((((x0 - (((x0).toUInt32 >>> (((1 : Int32)).toUInt32 &&& Int32.toUInt32 31)).toInt32 &&& 1431655765)) &&& 858993459) + ((((x0 - (((x0).toUInt32 >>> (((1 : Int32)).toUInt32 &&& Int32.toUInt32 31)).toInt32 &&& 1431655765))).toUInt32 >>> (((2 : Int32)).toUInt32 &&& Int32.toUInt32 31)).toInt32 &&& 858993459))).toUInt32 >>> (((4 : Int32)).toUInt32 &&& Int32.toUInt32 31)).toInt32) &&& 252645135) + (((((((x0 - (((x0).toUInt32 >>> (((1 : Int32)).toUInt32 &&& Int32.toUInt32 31)).toInt32 &&& 1431655765)) &&& 858993459) + ((((x0 - (((x0).toUInt32 >>> (((1 : Int32)).toUInt32 &&& Int32.toUInt32 31)).toInt32 &&& 1431655765))).toUInt32 >>> (((2 : Int32)).toUInt32 &&& Int32.toUInt32 31)).toInt32 &&& 858993459)) + (((((x0 - (((x0).toUInt32 >>> (((1 : Int32)).toUInt32 &&& Int32.toUInt32 31)).toInt32 &&& 1431655765)) &&& 858993459) + ((((x0 - (((x0).toUInt32 >>> (((1 : Int32)).toUInt32 &&& Int32.toUInt32 31)).toInt32 &&& 1431655765))).toUInt32 >>> (((2 : Int32)).toUInt32 &&& Int32.toUInt32 31)).toInt32 &&& 858993459))).toUInt32 >>> (((4 : Int32)).toUInt32 &&& Int32.toUInt32 31)).toInt32) &&& 252645135)).toUInt32 >>> (((8 : Int32)).toUInt32 &&& Int32.toUInt32 31)).toInt32)).toUInt32 >>> (((16 : Int32)).toUInt32 &&& Int32.toUInt32 31)).toInt32))]) hx hb dJ6_bitCount_0f7a4_47 rfl hl (by decide) rfl (fun ls hl => ?_)
  refine lv_iload_n hx hb dJ6_bitCount_0f7a4_48 rfl (lv_at hl 0 rfl) ?_
  refine lv_bipush (v := 63) hx hb dJ6_bitCount_0f7a4_49 (by decide) ?_
  refine lv_iand hx hb dJ6_bitCount_0f7a4_51 ?_
  cases h
  exact ret_i hx hb hr rfl hQ hlocks hK hP hD hS dJ6_bitCount_0f7a4_52
set_option maxHeartbeats 1000000 in
set_option maxRecDepth 100000 in
theorem c_X3_size (l : Launch) (G : va_G) (kc : Nat → ClassId) (a0 : Nat) {c_a : (Nat → Int32)}  {r : Int32} {FU : Nat} (h : f_X3_size FU c_a = some r) : CTi l G kc yX3_size cX3_size 3 (some .int) (rmq 1 20) [.ref a0] ([(a0, .inl (kc 0, 16, .inl c_a))]) ([(a0, .inl (kc 0, 16, .inl c_a))]) r := by
  refine CTi.mk (by decide) (Nat.le_of_ble_eq_true rfl) ?_
  intro p e s m args below meth c A ls Q hQ S hr hlocks hN hA hK hl hP hD hS
  have hx := S.1
  have hb := S.2.1
  have hl : lv_has ls 3 [(0, .ref a0)] := hl
  unfold f_X3_size at h
  refine lv_iconst (v := 0) hx hb dX3_size_0 (by decide) ?_
  refine lv_istore_n (lv' := [(1, .int 0), (0, .ref a0)]) hx hb dX3_size_1 rfl hl (by decide) rfl (fun ls hl => ?_)
  refine lv_iconst (v := 0) hx hb dX3_size_2 (by decide) ?_
  refine lv_istore_n (lv' := [(2, .int 0), (1, .int 0), (0, .ref a0)]) hx hb dX3_size_3 rfl hl (by decide) rfl (fun ls hl => ?_)
  refine jn_w (t := fun k => f_X3_size_L4 FU c_a k FU 0 0) (fun (k : Int32 → Int32 → Option (Int32)) => ∀ (x1_1 : Int32) (x2_2 : Int32) (H : Heap) (locs : List Loc) (ls : Array Slot), VP G ([(a0, .inl (kc 0, 16, .inl c_a))]) H → va_D A ([(a0, .inl (kc 0, 16, .inl c_a))]) → va_S A s.heap H locs → lv_has ls 3 [(1, .int x1_1)] → k x1_1 x2_2 = some r → WW p l e (rmq 1 20) s m args below meth c Q H locs 25 ls []) h ?_ ?_
  · intro x1_1 x2_2 H locs ls hP hD hS hl h
    refine lv_iload_n hx hb dX3_size_25 rfl (lv_at hl 0 rfl) ?_
    cases h
    exact ret_i hx hb hr rfl hQ hlocks hK hP hD hS dX3_size_26
  · intro k_3 K_4 h
    have L_5 : ∀ (n : Nat) (x1_1 : Int32) (x2_2 : Int32) (H : Heap) (locs : List Loc) (ls : Array Slot), VP G ([(a0, .inl (kc 0, 16, .inl c_a))]) H → va_D A ([(a0, .inl (kc 0, 16, .inl c_a))]) → va_S A s.heap H locs → lv_has ls 3 [(0, .ref a0), (1, .int x1_1), (2, .int x2_2)] → f_X3_size_L4 FU c_a k_3 n x1_1 x2_2 = some r → WW p l e (rmq 1 20) s m args below meth c Q H locs 4 ls [] := by
      intro n
      induction n with
      | zero => intro x1_1 x2_2 H locs ls hP hD hS hl h; rw [f_X3_size_L4] at h; cases h
      | succ n ih =>
        intro x1_1 x2_2 H locs ls hP hD hS hl h
        rw [f_X3_size_L4] at h
        refine lv_iload_n hx hb dX3_size_4 rfl (lv_at hl 2 rfl) ?_
        refine lv_bipush (v := 16) hx hb dX3_size_5 (by decide) ?_
        refine lv_icmp_ge (tgt := 25) hx hb dX3_size_7 (by decide) (fun q_8 => ?_) (fun q_8 => ?_)
        · have h := it_t q_8 h
          exact K_4 x1_1 x2_2 _ _ _ hP hD hS (lv_sub hl [1] rfl) h
        · have h := it_f q_8 h
          refine lv_iload_n hx hb dX3_size_10 rfl (lv_at hl 1 rfl) ?_
          refine lv_aload_n hx hb dX3_size_11 rfl (lv_at hl 0 rfl) ?_
          refine lv_iload_n hx hb dX3_size_12 rfl (lv_at hl 2 rfl) ?_
          refine r_iald hx hb hK hP 0 rfl dX3_size_13 h (fun y_6 h => ?_)
          obtain ⟨r_7, hq, h⟩ := bd1_e h
          refine cp_Si (rest := [.int x1_1]) [] S hN cb_J6_bitCount_0f7a4 ml_X3_9 ⟨Nat.le_of_ble_eq_true rfl, Nat.le_of_ble_eq_true rfl⟩ (c_J6_bitCount_0f7a4 l G kc y_6 hq) hK hP hD hS hA rfl rfl rfl rfl rfl (Nat.le_of_ble_eq_true rfl) hl.1 dX3_size_14 (fun H locs hP hD hS => ?_)
          have hP : VP G ([(a0, .inl (kc 0, 16, .inl c_a))]) H := hP
          have hD : va_D A ([(a0, .inl (kc 0, 16, .inl c_a))]) := hD
          refine lv_iadd hx hb dX3_size_17 ?_
          refine lv_istore_n (lv' := [(1, .int (x1_1 + r_7)), (0, .ref a0), (2, .int x2_2)]) hx hb dX3_size_18 rfl hl (by decide) rfl (fun ls hl => ?_)
          refine lv_iinc (v := (x2_2 + 1)) (lv' := [(2, .int (x2_2 + 1)), (1, .int (x1_1 + r_7)), (0, .ref a0)]) hx hb dX3_size_19 hl (k := 2) rfl rfl (by decide) rfl (fun ls hl => ?_)
          refine lv_goto (tgt := 4) hx hb dX3_size_22 (by decide) ?_
          exact ih (x1_1 + r_7) (x2_2 + 1) _ _ _ hP hD hS (lv_sub hl [2, 1, 0] rfl) h
    exact L_5 FU 0 0 _ _ _ hP hD hS (lv_sub hl [2, 1, 0] rfl) h
set_option maxHeartbeats 1000000 in
set_option maxRecDepth 100000 in
theorem c_X0_begin (l : Launch) (G : va_G) (kc : Nat → ClassId) (ap ad la fa ra : Nat → Nat) {c_greys : (Nat → Int32)} {c_remembered : (Nat → Int32)} {c_columns : Int32} {c_rows : Int32} {c_settings : (Nat → Int32)} {c_reached : Int32} {c_order : (Nat → Int32)} {c_merged : (Nat → Int32)} {c_least : (Nat → Int32)} {c_greatest : (Nat → Int32)} {c_role : (Nat → Int32)} {c_head : (Nat → Int64)} {c_tail : (Nat → Int64)} {c_rank : (Nat → Int32)} {c_kindFrom : (Nat → Int32)} {c_kindTo : (Nat → Int32)} {c_side : Int32} {c_across : Int32} {c_down : Int32} {c_count : Int32} {c_flats : Int32} {c_crowded : Int32} {c_kinds : Int32} {c_first : (Nat → Int32)} {c_second : (Nat → Int32)} {c_pairs : Int32} {c_pairsWith : (Nat → Int32)} {c_voted : (Nat → Int32)} {c_ways : (Nat → Int32)} {c_shcount : Int32} {c_numberOfWay : (Nat → Int32)} {c_list : (Nat → Nat)} {c_fcount : Int32} {c_regions : (Nat → Int32)} {c_left : (Nat → Nat → Int32)} {c_open : (Nat → Int32)} {c_frows : (Nat → Nat → Int32)} {c_fshift : (Nat → Int32)} {c_fdx : (Nat → Int32)} {c_fdy : (Nat → Int32)} {c_fleastPlace : (Nat → Int32)} {c_fpairs : (Nat → Int32)} {c_foffset : (Nat → Int32)} {c_fplacesFirst : (Nat → Int32)} {c_fplaces : (Nat → Int32)} (x1 : Int32) (x2 : Int32) (x3 : Int32) {j_this : Nat} (hj_this : j_this < 25) {s_a4 : Nat} (hs_a4 : s_a4 < 8) {c_left' : (Nat → Nat → Int32)} {c_frows' : (Nat → Nat → Int32)} {c_fshift' : (Nat → Int32)} {c_fdx' : (Nat → Int32)} {c_fdy' : (Nat → Int32)} {c_fleastPlace' : (Nat → Int32)} {c_fpairs' : (Nat → Int32)} {FU : Nat} (h : f_X0_begin FU c_left c_frows c_fshift c_fdx c_fdy c_fleastPlace c_fpairs j_this s_a4 x1 x2 x3 = some (c_left', c_frows', c_fshift', c_fdx', c_fdy', c_fleastPlace', c_fpairs')) : CTv l G kc yX0_begin cX0_begin 6 none (rmq 2 50) [.ref (fa j_this), .int x1, .int x2, .int x3, .ref (la s_a4)] (sW ap ad la fa ra kc c_greys c_remembered c_columns c_rows c_settings c_reached c_order c_merged c_least c_greatest c_role c_head c_tail c_rank c_kindFrom c_kindTo c_side c_across c_down c_count c_flats c_crowded c_kinds c_first c_second c_pairs c_pairsWith c_voted c_ways c_shcount c_numberOfWay c_list c_fcount c_regions c_left c_open c_frows c_fshift c_fdx c_fdy c_fleastPlace c_fpairs c_foffset c_fplacesFirst c_fplaces) (sW ap ad la fa ra kc c_greys c_remembered c_columns c_rows c_settings c_reached c_order c_merged c_least c_greatest c_role c_head c_tail c_rank c_kindFrom c_kindTo c_side c_across c_down c_count c_flats c_crowded c_kinds c_first c_second c_pairs c_pairsWith c_voted c_ways c_shcount c_numberOfWay c_list c_fcount c_regions (c_left') c_open (c_frows') (c_fshift') (c_fdx') (c_fdy') (c_fleastPlace') (c_fpairs') c_foffset c_fplacesFirst c_fplaces) := by
  refine CTv.mk (by decide) (Nat.le_of_ble_eq_true rfl) ?_
  intro p e s m args below meth c A ls Q hQ S hr hlocks hN hA hK hl hP hD hS
  have hx := S.1
  have hb := S.2.1
  have hl : lv_has ls 6 [(0, .ref (fa j_this)), (1, .int x1), (2, .int x2), (3, .int x3), (4, .ref (la s_a4))] := hl
  unfold f_X0_begin at h
  refine lv_aload_n hx hb dX0_begin_0 rfl (lv_at hl 0 rfl) ?_
  refine lv_iload_n hx hb dX0_begin_1 rfl (lv_at hl 1 rfl) ?_
  refine r_put S pf_X0_15 hK hP hD hS (36 + j_this) (sW_f hj_this) (Nat.le_of_ble_eq_true rfl) dX0_begin_2 (fun H locs hP hD hS => ?_)
  have hP : VP G (sW ap ad la fa ra kc c_greys c_remembered c_columns c_rows c_settings c_reached c_order c_merged c_least c_greatest c_role c_head c_tail c_rank c_kindFrom c_kindTo c_side c_across c_down c_count c_flats c_crowded c_kinds c_first c_second c_pairs c_pairsWith c_voted c_ways c_shcount c_numberOfWay c_list c_fcount c_regions c_left c_open c_frows (upd c_fshift j_this x1) c_fdx c_fdy c_fleastPlace c_fpairs c_foffset c_fplacesFirst c_fplaces) H := eqP (sW_fs_1 hj_this) hP
  have hD : va_D A (sW ap ad la fa ra kc c_greys c_remembered c_columns c_rows c_settings c_reached c_order c_merged c_least c_greatest c_role c_head c_tail c_rank c_kindFrom c_kindTo c_side c_across c_down c_count c_flats c_crowded c_kinds c_first c_second c_pairs c_pairsWith c_voted c_ways c_shcount c_numberOfWay c_list c_fcount c_regions c_left c_open c_frows (upd c_fshift j_this x1) c_fdx c_fdy c_fleastPlace c_fpairs c_foffset c_fplacesFirst c_fplaces) := eqD (sW_fs_1 hj_this) hD
  refine lv_aload_n hx hb dX0_begin_5 rfl (lv_at hl 0 rfl) ?_
  refine lv_iload_n hx hb dX0_begin_6 rfl (lv_at hl 2 rfl) ?_
  obtain ⟨r_1, hq, h⟩ := bd1_e h
  refine cn_Si (rest := [.ref (fa j_this)]) S hN cb_X7_acrossOf mn_X0_19 ⟨Nat.le_of_ble_eq_true rfl, Nat.le_of_ble_eq_true rfl⟩ (c_X7_acrossOf l G kc x2 hq) hK hP hD hS hA rfl rfl (Nat.le_of_ble_eq_true rfl) hl.1 dX0_begin_7 (fun H locs hP hD hS => ?_)
  refine r_put S pf_X0_23 hK hP hD hS (36 + j_this) (sW_f hj_this) (Nat.le_of_ble_eq_true rfl) dX0_begin_10 (fun H locs hP hD hS => ?_)
  have hP : VP G (sW ap ad la fa ra kc c_greys c_remembered c_columns c_rows c_settings c_reached c_order c_merged c_least c_greatest c_role c_head c_tail c_rank c_kindFrom c_kindTo c_side c_across c_down c_count c_flats c_crowded c_kinds c_first c_second c_pairs c_pairsWith c_voted c_ways c_shcount c_numberOfWay c_list c_fcount c_regions c_left c_open c_frows (upd c_fshift j_this x1) (upd c_fdx j_this r_1) c_fdy c_fleastPlace c_fpairs c_foffset c_fplacesFirst c_fplaces) H := eqP (sW_fs_2 hj_this) hP
  have hD : va_D A (sW ap ad la fa ra kc c_greys c_remembered c_columns c_rows c_settings c_reached c_order c_merged c_least c_greatest c_role c_head c_tail c_rank c_kindFrom c_kindTo c_side c_across c_down c_count c_flats c_crowded c_kinds c_first c_second c_pairs c_pairsWith c_voted c_ways c_shcount c_numberOfWay c_list c_fcount c_regions c_left c_open c_frows (upd c_fshift j_this x1) (upd c_fdx j_this r_1) c_fdy c_fleastPlace c_fpairs c_foffset c_fplacesFirst c_fplaces) := eqD (sW_fs_2 hj_this) hD
  refine lv_aload_n hx hb dX0_begin_13 rfl (lv_at hl 0 rfl) ?_
  refine lv_iload_n hx hb dX0_begin_14 rfl (lv_at hl 2 rfl) ?_
  obtain ⟨r_2, hq, h⟩ := bd1_e h
  refine cn_Si (rest := [.ref (fa j_this)]) S hN cb_X7_downOf mn_X0_26 ⟨Nat.le_of_ble_eq_true rfl, Nat.le_of_ble_eq_true rfl⟩ (c_X7_downOf l G kc x2 hq) hK hP hD hS hA rfl rfl (Nat.le_of_ble_eq_true rfl) hl.1 dX0_begin_15 (fun H locs hP hD hS => ?_)
  refine r_put S pf_X0_29 hK hP hD hS (36 + j_this) (sW_f hj_this) (Nat.le_of_ble_eq_true rfl) dX0_begin_18 (fun H locs hP hD hS => ?_)
  have hP : VP G (sW ap ad la fa ra kc c_greys c_remembered c_columns c_rows c_settings c_reached c_order c_merged c_least c_greatest c_role c_head c_tail c_rank c_kindFrom c_kindTo c_side c_across c_down c_count c_flats c_crowded c_kinds c_first c_second c_pairs c_pairsWith c_voted c_ways c_shcount c_numberOfWay c_list c_fcount c_regions c_left c_open c_frows (upd c_fshift j_this x1) (upd c_fdx j_this r_1) (upd c_fdy j_this r_2) c_fleastPlace c_fpairs c_foffset c_fplacesFirst c_fplaces) H := eqP (sW_fs_3 hj_this) hP
  have hD : va_D A (sW ap ad la fa ra kc c_greys c_remembered c_columns c_rows c_settings c_reached c_order c_merged c_least c_greatest c_role c_head c_tail c_rank c_kindFrom c_kindTo c_side c_across c_down c_count c_flats c_crowded c_kinds c_first c_second c_pairs c_pairsWith c_voted c_ways c_shcount c_numberOfWay c_list c_fcount c_regions c_left c_open c_frows (upd c_fshift j_this x1) (upd c_fdx j_this r_1) (upd c_fdy j_this r_2) c_fleastPlace c_fpairs c_foffset c_fplacesFirst c_fplaces) := eqD (sW_fs_3 hj_this) hD
  refine lv_aload_n hx hb dX0_begin_21 rfl (lv_at hl 0 rfl) ?_
  refine lv_iload_n hx hb dX0_begin_22 rfl (lv_at hl 3 rfl) ?_
  refine r_put S pf_X0_32 hK hP hD hS (36 + j_this) (sW_f hj_this) (Nat.le_of_ble_eq_true rfl) dX0_begin_23 (fun H locs hP hD hS => ?_)
  have hP : VP G (sW ap ad la fa ra kc c_greys c_remembered c_columns c_rows c_settings c_reached c_order c_merged c_least c_greatest c_role c_head c_tail c_rank c_kindFrom c_kindTo c_side c_across c_down c_count c_flats c_crowded c_kinds c_first c_second c_pairs c_pairsWith c_voted c_ways c_shcount c_numberOfWay c_list c_fcount c_regions c_left c_open c_frows (upd c_fshift j_this x1) (upd c_fdx j_this r_1) (upd c_fdy j_this r_2) (upd c_fleastPlace j_this x3) c_fpairs c_foffset c_fplacesFirst c_fplaces) H := eqP (sW_fs_4 hj_this) hP
  have hD : va_D A (sW ap ad la fa ra kc c_greys c_remembered c_columns c_rows c_settings c_reached c_order c_merged c_least c_greatest c_role c_head c_tail c_rank c_kindFrom c_kindTo c_side c_across c_down c_count c_flats c_crowded c_kinds c_first c_second c_pairs c_pairsWith c_voted c_ways c_shcount c_numberOfWay c_list c_fcount c_regions c_left c_open c_frows (upd c_fshift j_this x1) (upd c_fdx j_this r_1) (upd c_fdy j_this r_2) (upd c_fleastPlace j_this x3) c_fpairs c_foffset c_fplacesFirst c_fplaces) := eqD (sW_fs_4 hj_this) hD
  refine lv_aload_n hx hb dX0_begin_26 rfl (lv_at hl 0 rfl) ?_
  refine r_get S gf_X0_9 hK hP (36 + j_this) (sW_f hj_this) rfl dX0_begin_27 ?_
  obtain ⟨g_3, hq, h⟩ := bd1_e h
  refine cp_Sv (rest := []) [(61 + j_this)] S hN cb_X3_clear ml_X0_35 ⟨Nat.le_of_ble_eq_true rfl, Nat.le_of_ble_eq_true rfl⟩ (c_X3_clear l G kc (ra j_this)  hq) hK hP hD hS hA (l1 (sW_r hj_this)) nd1 rfl rfl rfl (Nat.le_of_ble_eq_true rfl) hl.1 dX0_begin_30 (fun H locs hP hD hS => ?_)
  have hP : VP G (sW ap ad la fa ra kc c_greys c_remembered c_columns c_rows c_settings c_reached c_order c_merged c_least c_greatest c_role c_head c_tail c_rank c_kindFrom c_kindTo c_side c_across c_down c_count c_flats c_crowded c_kinds c_first c_second c_pairs c_pairsWith c_voted c_ways c_shcount c_numberOfWay c_list c_fcount c_regions c_left c_open (va_up c_frows j_this g_3) (upd c_fshift j_this x1) (upd c_fdx j_this r_1) (upd c_fdy j_this r_2) (upd c_fleastPlace j_this x3) c_fpairs c_foffset c_fplacesFirst c_fplaces) H := eqP (sW_rs hj_this) hP
  have hD : va_D A (sW ap ad la fa ra kc c_greys c_remembered c_columns c_rows c_settings c_reached c_order c_merged c_least c_greatest c_role c_head c_tail c_rank c_kindFrom c_kindTo c_side c_across c_down c_count c_flats c_crowded c_kinds c_first c_second c_pairs c_pairsWith c_voted c_ways c_shcount c_numberOfWay c_list c_fcount c_regions c_left c_open (va_up c_frows j_this g_3) (upd c_fshift j_this x1) (upd c_fdx j_this r_1) (upd c_fdy j_this r_2) (upd c_fleastPlace j_this x3) c_fpairs c_foffset c_fplacesFirst c_fplaces) := eqD (sW_rs hj_this) hD
  refine lv_aload_n hx hb dX0_begin_33 rfl (lv_at hl 0 rfl) ?_
  refine r_get S gf_X0_9 hK hP (36 + j_this) (sW_f hj_this) rfl dX0_begin_34 ?_
  refine lv_iload_n hx hb dX0_begin_37 rfl (lv_at hl 3 rfl) ?_
  refine lv_bipush (v := 16) hx hb dX0_begin_38 (by decide) ?_
  refine lv_idiv hx hb dX0_begin_40 (by decide) ?_
  refine lv_iconst (v := 1) hx hb dX0_begin_41 (by decide) ?_
  refine lv_iload_n hx hb dX0_begin_42 rfl (lv_at hl 3 rfl) ?_
  refine lv_bipush (v := 16) hx hb dX0_begin_43 (by decide) ?_
  refine lv_irem hx hb dX0_begin_45 (by decide) ?_
  refine lv_ishl hx hb dX0_begin_46 ?_
  refine r_iast hx hb hK hP hD hS (61 + j_this) (sW_r hj_this) dX0_begin_47 h (fun g_4 H locs hP hD hS h => ?_)
  have hP : VP G (sW ap ad la fa ra kc c_greys c_remembered c_columns c_rows c_settings c_reached c_order c_merged c_least c_greatest c_role c_head c_tail c_rank c_kindFrom c_kindTo c_side c_across c_down c_count c_flats c_crowded c_kinds c_first c_second c_pairs c_pairsWith c_voted c_ways c_shcount c_numberOfWay c_list c_fcount c_regions c_left c_open (va_up (va_up c_frows j_this g_3) j_this g_4) (upd c_fshift j_this x1) (upd c_fdx j_this r_1) (upd c_fdy j_this r_2) (upd c_fleastPlace j_this x3) c_fpairs c_foffset c_fplacesFirst c_fplaces) H := eqP (sW_rs hj_this) hP
  have hD : va_D A (sW ap ad la fa ra kc c_greys c_remembered c_columns c_rows c_settings c_reached c_order c_merged c_least c_greatest c_role c_head c_tail c_rank c_kindFrom c_kindTo c_side c_across c_down c_count c_flats c_crowded c_kinds c_first c_second c_pairs c_pairsWith c_voted c_ways c_shcount c_numberOfWay c_list c_fcount c_regions c_left c_open (va_up (va_up c_frows j_this g_3) j_this g_4) (upd c_fshift j_this x1) (upd c_fdx j_this r_1) (upd c_fdy j_this r_2) (upd c_fleastPlace j_this x3) c_fpairs c_foffset c_fplacesFirst c_fplaces) := eqD (sW_rs hj_this) hD
  refine lv_aload_n hx hb dX0_begin_48 rfl (lv_at hl 0 rfl) ?_
  refine r_get S gf_X0_9 hK hP (36 + j_this) (sW_f hj_this) rfl dX0_begin_49 ?_
  refine lv_aload hx hb dX0_begin_52 (lv_at hl 4 rfl) ?_
  obtain ⟨g_5, hq, h⟩ := bd1_e h
  refine cp_Sv (rest := []) [(61 + j_this), (28 + s_a4)] S hN cb_X3_spread ml_X0_41 ⟨Nat.le_of_ble_eq_true rfl, Nat.le_of_ble_eq_true rfl⟩ (c_X3_spread l G kc (ra j_this) (la s_a4)  hq) hK hP hD hS hA (l2 (sW_r hj_this) (sW_l hs_a4)) (nd2 (by omega)) rfl rfl rfl (Nat.le_of_ble_eq_true rfl) hl.1 dX0_begin_54 (fun H locs hP hD hS => ?_)
  have hP : VP G (sW ap ad la fa ra kc c_greys c_remembered c_columns c_rows c_settings c_reached c_order c_merged c_least c_greatest c_role c_head c_tail c_rank c_kindFrom c_kindTo c_side c_across c_down c_count c_flats c_crowded c_kinds c_first c_second c_pairs c_pairsWith c_voted c_ways c_shcount c_numberOfWay c_list c_fcount c_regions c_left c_open (va_up (va_up (va_up c_frows j_this g_3) j_this g_4) j_this g_5) (upd c_fshift j_this x1) (upd c_fdx j_this r_1) (upd c_fdy j_this r_2) (upd c_fleastPlace j_this x3) c_fpairs c_foffset c_fplacesFirst c_fplaces) H := eqP (eq2 (sW_rs hj_this) (sW_l hs_a4)) hP
  have hD : va_D A (sW ap ad la fa ra kc c_greys c_remembered c_columns c_rows c_settings c_reached c_order c_merged c_least c_greatest c_role c_head c_tail c_rank c_kindFrom c_kindTo c_side c_across c_down c_count c_flats c_crowded c_kinds c_first c_second c_pairs c_pairsWith c_voted c_ways c_shcount c_numberOfWay c_list c_fcount c_regions c_left c_open (va_up (va_up (va_up c_frows j_this g_3) j_this g_4) j_this g_5) (upd c_fshift j_this x1) (upd c_fdx j_this r_1) (upd c_fdy j_this r_2) (upd c_fleastPlace j_this x3) c_fpairs c_foffset c_fplacesFirst c_fplaces) := eqD (eq2 (sW_rs hj_this) (sW_l hs_a4)) hD
  refine lv_aload_n hx hb dX0_begin_57 rfl (lv_at hl 0 rfl) ?_
  refine lv_aload_n hx hb dX0_begin_58 rfl (lv_at hl 0 rfl) ?_
  refine r_get S gf_X0_9 hK hP (36 + j_this) (sW_f hj_this) rfl dX0_begin_59 ?_
  obtain ⟨r_6, hq, h⟩ := bd1_e h
  refine cp_Si (rest := [.ref (fa j_this)]) [(61 + j_this)] S hN cb_X3_size ml_X0_45 ⟨Nat.le_of_ble_eq_true rfl, Nat.le_of_ble_eq_true rfl⟩ (c_X3_size l G kc (ra j_this)  hq) hK hP hD hS hA (l1 (sW_r hj_this)) nd1 rfl rfl rfl (Nat.le_of_ble_eq_true rfl) hl.1 dX0_begin_62 (fun H locs hP hD hS => ?_)
  have hP : VP G (sW ap ad la fa ra kc c_greys c_remembered c_columns c_rows c_settings c_reached c_order c_merged c_least c_greatest c_role c_head c_tail c_rank c_kindFrom c_kindTo c_side c_across c_down c_count c_flats c_crowded c_kinds c_first c_second c_pairs c_pairsWith c_voted c_ways c_shcount c_numberOfWay c_list c_fcount c_regions c_left c_open (va_up (va_up (va_up c_frows j_this g_3) j_this g_4) j_this g_5) (upd c_fshift j_this x1) (upd c_fdx j_this r_1) (upd c_fdy j_this r_2) (upd c_fleastPlace j_this x3) c_fpairs c_foffset c_fplacesFirst c_fplaces) H := eqP (set_same (sW_r hj_this)) hP
  have hD : va_D A (sW ap ad la fa ra kc c_greys c_remembered c_columns c_rows c_settings c_reached c_order c_merged c_least c_greatest c_role c_head c_tail c_rank c_kindFrom c_kindTo c_side c_across c_down c_count c_flats c_crowded c_kinds c_first c_second c_pairs c_pairsWith c_voted c_ways c_shcount c_numberOfWay c_list c_fcount c_regions c_left c_open (va_up (va_up (va_up c_frows j_this g_3) j_this g_4) j_this g_5) (upd c_fshift j_this x1) (upd c_fdx j_this r_1) (upd c_fdy j_this r_2) (upd c_fleastPlace j_this x3) c_fpairs c_foffset c_fplacesFirst c_fplaces) := eqD (set_same (sW_r hj_this)) hD
  refine r_put S pf_X0_49 hK hP hD hS (36 + j_this) (sW_f hj_this) (Nat.le_of_ble_eq_true rfl) dX0_begin_65 (fun H locs hP hD hS => ?_)
  have hP : VP G (sW ap ad la fa ra kc c_greys c_remembered c_columns c_rows c_settings c_reached c_order c_merged c_least c_greatest c_role c_head c_tail c_rank c_kindFrom c_kindTo c_side c_across c_down c_count c_flats c_crowded c_kinds c_first c_second c_pairs c_pairsWith c_voted c_ways c_shcount c_numberOfWay c_list c_fcount c_regions c_left c_open (va_up (va_up (va_up c_frows j_this g_3) j_this g_4) j_this g_5) (upd c_fshift j_this x1) (upd c_fdx j_this r_1) (upd c_fdy j_this r_2) (upd c_fleastPlace j_this x3) (upd c_fpairs j_this r_6) c_foffset c_fplacesFirst c_fplaces) H := eqP (sW_fs_5 hj_this) hP
  have hD : va_D A (sW ap ad la fa ra kc c_greys c_remembered c_columns c_rows c_settings c_reached c_order c_merged c_least c_greatest c_role c_head c_tail c_rank c_kindFrom c_kindTo c_side c_across c_down c_count c_flats c_crowded c_kinds c_first c_second c_pairs c_pairsWith c_voted c_ways c_shcount c_numberOfWay c_list c_fcount c_regions c_left c_open (va_up (va_up (va_up c_frows j_this g_3) j_this g_4) j_this g_5) (upd c_fshift j_this x1) (upd c_fdx j_this r_1) (upd c_fdy j_this r_2) (upd c_fleastPlace j_this x3) (upd c_fpairs j_this r_6) c_foffset c_fplacesFirst c_fplaces) := eqD (sW_fs_5 hj_this) hD
  refine lv_iconst (v := 0) hx hb dX0_begin_68 (by decide) ?_
  refine lv_istore (lv' := [(5, .int 0), (0, .ref (fa j_this)), (1, .int x1), (2, .int x2), (3, .int x3), (4, .ref (la s_a4))]) hx hb dX0_begin_69 hl (by decide) rfl (fun ls hl => ?_)
  refine jn_w (t := fun k => f_X0_begin_L71 FU (va_up (va_up (va_up c_frows j_this g_3) j_this g_4) j_this g_5) j_this s_a4 k FU 0 c_left) (fun (k : Int32 → (Nat → Nat → Int32) → Option ((Nat → Nat → Int32) × (Nat → Nat → Int32) × (Nat → Int32) × (Nat → Int32) × (Nat → Int32) × (Nat → Int32) × (Nat → Int32))) => ∀ (x5_7 : Int32) (c_left_8 : (Nat → Nat → Int32)) (H : Heap) (locs : List Loc) (ls : Array Slot), VP G (sW ap ad la fa ra kc c_greys c_remembered c_columns c_rows c_settings c_reached c_order c_merged c_least c_greatest c_role c_head c_tail c_rank c_kindFrom c_kindTo c_side c_across c_down c_count c_flats c_crowded c_kinds c_first c_second c_pairs c_pairsWith c_voted c_ways c_shcount c_numberOfWay c_list c_fcount c_regions c_left_8 c_open (va_up (va_up (va_up c_frows j_this g_3) j_this g_4) j_this g_5) (upd c_fshift j_this x1) (upd c_fdx j_this r_1) (upd c_fdy j_this r_2) (upd c_fleastPlace j_this x3) (upd c_fpairs j_this r_6) c_foffset c_fplacesFirst c_fplaces) H → va_D A (sW ap ad la fa ra kc c_greys c_remembered c_columns c_rows c_settings c_reached c_order c_merged c_least c_greatest c_role c_head c_tail c_rank c_kindFrom c_kindTo c_side c_across c_down c_count c_flats c_crowded c_kinds c_first c_second c_pairs c_pairsWith c_voted c_ways c_shcount c_numberOfWay c_list c_fcount c_regions c_left_8 c_open (va_up (va_up (va_up c_frows j_this g_3) j_this g_4) j_this g_5) (upd c_fshift j_this x1) (upd c_fdx j_this r_1) (upd c_fdy j_this r_2) (upd c_fleastPlace j_this x3) (upd c_fpairs j_this r_6) c_foffset c_fplacesFirst c_fplaces) → va_S A s.heap H locs → lv_has ls 6 [] → k x5_7 c_left_8 = some (c_left', c_frows', c_fshift', c_fdx', c_fdy', c_fleastPlace', c_fpairs') → WW p l e (rmq 2 50) s m args below meth c Q H locs 101 ls []) h ?_ ?_
  · intro x5_7 c_left_8 H locs ls hP hD hS hl h
    cases h
    exact ret_v hx hb hr hQ hlocks hK hP hD hS dX0_begin_101
  · intro k_9 K_10 h
    have L_11 : ∀ (n : Nat) (x5_7 : Int32) (c_left_8 : (Nat → Nat → Int32)) (H : Heap) (locs : List Loc) (ls : Array Slot), VP G (sW ap ad la fa ra kc c_greys c_remembered c_columns c_rows c_settings c_reached c_order c_merged c_least c_greatest c_role c_head c_tail c_rank c_kindFrom c_kindTo c_side c_across c_down c_count c_flats c_crowded c_kinds c_first c_second c_pairs c_pairsWith c_voted c_ways c_shcount c_numberOfWay c_list c_fcount c_regions c_left_8 c_open (va_up (va_up (va_up c_frows j_this g_3) j_this g_4) j_this g_5) (upd c_fshift j_this x1) (upd c_fdx j_this r_1) (upd c_fdy j_this r_2) (upd c_fleastPlace j_this x3) (upd c_fpairs j_this r_6) c_foffset c_fplacesFirst c_fplaces) H → va_D A (sW ap ad la fa ra kc c_greys c_remembered c_columns c_rows c_settings c_reached c_order c_merged c_least c_greatest c_role c_head c_tail c_rank c_kindFrom c_kindTo c_side c_across c_down c_count c_flats c_crowded c_kinds c_first c_second c_pairs c_pairsWith c_voted c_ways c_shcount c_numberOfWay c_list c_fcount c_regions c_left_8 c_open (va_up (va_up (va_up c_frows j_this g_3) j_this g_4) j_this g_5) (upd c_fshift j_this x1) (upd c_fdx j_this r_1) (upd c_fdy j_this r_2) (upd c_fleastPlace j_this x3) (upd c_fpairs j_this r_6) c_foffset c_fplacesFirst c_fplaces) → va_S A s.heap H locs → lv_has ls 6 [(0, .ref (fa j_this)), (4, .ref (la s_a4)), (5, .int x5_7)] → f_X0_begin_L71 FU (va_up (va_up (va_up c_frows j_this g_3) j_this g_4) j_this g_5) j_this s_a4 k_9 n x5_7 c_left_8 = some (c_left', c_frows', c_fshift', c_fdx', c_fdy', c_fleastPlace', c_fpairs') → WW p l e (rmq 2 50) s m args below meth c Q H locs 71 ls [] := by
      intro n
      induction n with
      | zero => intro x5_7 c_left_8 H locs ls hP hD hS hl h; rw [f_X0_begin_L71] at h; cases h
      | succ n ih =>
        intro x5_7 c_left_8 H locs ls hP hD hS hl h
        rw [f_X0_begin_L71] at h
        refine lv_iload hx hb dX0_begin_71 (lv_at hl 2 rfl) ?_
        refine lv_bipush (v := 16) hx hb dX0_begin_73 (by decide) ?_
        refine lv_icmp_ge (tgt := 101) hx hb dX0_begin_75 (by decide) (fun q_15 => ?_) (fun q_15 => ?_)
        · have h := it_t q_15 h
          exact K_10 x5_7 c_left_8 _ _ _ hP hD hS (lv_sub hl [] rfl) h
        · have h := it_f q_15 h
          refine lv_aload hx hb dX0_begin_78 (lv_at hl 1 rfl) ?_
          refine lv_iload hx hb dX0_begin_80 (lv_at hl 2 rfl) ?_
          refine lv_dup2_11 hx hb dX0_begin_82 rfl rfl ?_
          refine r_iald hx hb hK hP (28 + s_a4) (sW_l hs_a4) dX0_begin_83 h (fun y_12 h => ?_)
          refine lv_aload_n hx hb dX0_begin_84 rfl (lv_at hl 0 rfl) ?_
          refine r_get S gf_X0_9 hK hP (36 + j_this) (sW_f hj_this) rfl dX0_begin_85 ?_
          refine lv_iload hx hb dX0_begin_88 (lv_at hl 2 rfl) ?_
          refine r_iald hx hb hK hP (61 + j_this) (sW_r hj_this) dX0_begin_90 h (fun y_13 h => ?_)
          refine lv_iconst (v := (-1)) hx hb dX0_begin_91 (by decide) ?_
          refine lv_ixor hx hb dX0_begin_92 ?_
          refine lv_iand hx hb dX0_begin_93 ?_
          refine r_iast hx hb hK hP hD hS (28 + s_a4) (sW_l hs_a4) dX0_begin_94 h (fun g_14 H locs hP hD hS h => ?_)
          have hP : VP G (sW ap ad la fa ra kc c_greys c_remembered c_columns c_rows c_settings c_reached c_order c_merged c_least c_greatest c_role c_head c_tail c_rank c_kindFrom c_kindTo c_side c_across c_down c_count c_flats c_crowded c_kinds c_first c_second c_pairs c_pairsWith c_voted c_ways c_shcount c_numberOfWay c_list c_fcount c_regions (va_up c_left_8 s_a4 g_14) c_open (va_up (va_up (va_up c_frows j_this g_3) j_this g_4) j_this g_5) (upd c_fshift j_this x1) (upd c_fdx j_this r_1) (upd c_fdy j_this r_2) (upd c_fleastPlace j_this x3) (upd c_fpairs j_this r_6) c_foffset c_fplacesFirst c_fplaces) H := eqP (sW_ls hs_a4) hP
          have hD : va_D A (sW ap ad la fa ra kc c_greys c_remembered c_columns c_rows c_settings c_reached c_order c_merged c_least c_greatest c_role c_head c_tail c_rank c_kindFrom c_kindTo c_side c_across c_down c_count c_flats c_crowded c_kinds c_first c_second c_pairs c_pairsWith c_voted c_ways c_shcount c_numberOfWay c_list c_fcount c_regions (va_up c_left_8 s_a4 g_14) c_open (va_up (va_up (va_up c_frows j_this g_3) j_this g_4) j_this g_5) (upd c_fshift j_this x1) (upd c_fdx j_this r_1) (upd c_fdy j_this r_2) (upd c_fleastPlace j_this x3) (upd c_fpairs j_this r_6) c_foffset c_fplacesFirst c_fplaces) := eqD (sW_ls hs_a4) hD
          refine lv_iinc (v := (x5_7 + 1)) (lv' := [(5, .int (x5_7 + 1)), (0, .ref (fa j_this)), (4, .ref (la s_a4))]) hx hb dX0_begin_95 hl (k := 2) rfl rfl (by decide) rfl (fun ls hl => ?_)
          refine lv_goto (tgt := 71) hx hb dX0_begin_98 (by decide) ?_
          exact ih (x5_7 + 1) (va_up c_left_8 s_a4 g_14) _ _ _ hP hD hS (lv_sub hl [1, 2, 0] rfl) h
    exact L_11 FU 0 c_left _ _ _ hP hD hS (lv_sub hl [1, 5, 0] rfl) h
set_option maxHeartbeats 1000000 in
set_option maxRecDepth 100000 in
theorem c_X7_isWithin (l : Launch) (G : va_G) (kc : Nat → ClassId)   (x0 : Int32) (x1 : Int32) (x2 : Int32) {r : Int32} {FU : Nat} (h : f_X7_isWithin FU x0 x1 x2 = some r) : CTi l G kc yX7_isWithin cX7_isWithin 3 (some .boolean) (rmq 0 0) [.int x0, .int x1, .int x2] ([]) ([]) r := by
  refine CTi.mk (by decide) (Nat.le_of_ble_eq_true rfl) ?_
  intro p e s m args below meth c A ls Q hQ S hr hlocks hN hA hK hl hP hD hS
  have hx := S.1
  have hb := S.2.1
  have hl : lv_has ls 3 [(0, .int x0), (1, .int x1), (2, .int x2)] := hl
  unfold f_X7_isWithin at h
  refine lv_iload_n hx hb dX7_isWithin_0 rfl (lv_at hl 0 rfl) ?_
  refine lv_iload_n hx hb dX7_isWithin_1 rfl (lv_at hl 1 rfl) ?_
  refine lv_icmp_lt (tgt := 14) hx hb dX7_isWithin_2 (by decide) (fun q_2 => ?_) (fun q_2 => ?_)
  · have h := it_t q_2 h
    refine lv_iconst (v := 0) hx hb dX7_isWithin_14 (by decide) ?_
    cases h
    exact ret_i hx hb hr rfl hQ hlocks hK hP hD hS dX7_isWithin_15
  · have h := it_f q_2 h
    refine lv_iload_n hx hb dX7_isWithin_5 rfl (lv_at hl 0 rfl) ?_
    refine lv_iload_n hx hb dX7_isWithin_6 rfl (lv_at hl 2 rfl) ?_
    refine lv_icmp_gt (tgt := 14) hx hb dX7_isWithin_7 (by decide) (fun q_1 => ?_) (fun q_1 => ?_)
    · have h := it_t q_1 h
      refine lv_iconst (v := 0) hx hb dX7_isWithin_14 (by decide) ?_
      cases h
      exact ret_i hx hb hr rfl hQ hlocks hK hP hD hS dX7_isWithin_15
    · have h := it_f q_1 h
      refine lv_iconst (v := 1) hx hb dX7_isWithin_10 (by decide) ?_
      refine lv_goto (tgt := 15) hx hb dX7_isWithin_11 (by decide) ?_
      cases h
      exact ret_i hx hb hr rfl hQ hlocks hK hP hD hS dX7_isWithin_15
set_option maxHeartbeats 1000000 in
set_option maxRecDepth 100000 in
theorem c_X0_lift (l : Launch) (G : va_G) (kc : Nat → ClassId) (ap ad la fa ra : Nat → Nat) {c_greys : (Nat → Int32)} {c_remembered : (Nat → Int32)} {c_columns : Int32} {c_rows : Int32} {c_settings : (Nat → Int32)} {c_reached : Int32} {c_order : (Nat → Int32)} {c_merged : (Nat → Int32)} {c_least : (Nat → Int32)} {c_greatest : (Nat → Int32)} {c_role : (Nat → Int32)} {c_head : (Nat → Int64)} {c_tail : (Nat → Int64)} {c_rank : (Nat → Int32)} {c_kindFrom : (Nat → Int32)} {c_kindTo : (Nat → Int32)} {c_side : Int32} {c_across : Int32} {c_down : Int32} {c_count : Int32} {c_flats : Int32} {c_crowded : Int32} {c_kinds : Int32} {c_first : (Nat → Int32)} {c_second : (Nat → Int32)} {c_pairs : Int32} {c_pairsWith : (Nat → Int32)} {c_voted : (Nat → Int32)} {c_ways : (Nat → Int32)} {c_shcount : Int32} {c_numberOfWay : (Nat → Int32)} {c_list : (Nat → Nat)} {c_fcount : Int32} {c_regions : (Nat → Int32)} {c_left : (Nat → Nat → Int32)} {c_open : (Nat → Int32)} {c_frows : (Nat → Nat → Int32)} {c_fshift : (Nat → Int32)} {c_fdx : (Nat → Int32)} {c_fdy : (Nat → Int32)} {c_fleastPlace : (Nat → Int32)} {c_fpairs : (Nat → Int32)} {c_foffset : (Nat → Int32)} {c_fplacesFirst : (Nat → Int32)} {c_fplaces : (Nat → Int32)} (x2 : Int32) {j_this : Nat} (hj_this : j_this < 25) {c_foffset' : (Nat → Int32)} {FU : Nat} (h : f_X0_lift FU c_least c_fdx c_fdy c_fleastPlace c_foffset j_this x2 = some c_foffset') : CTv l G kc yX0_lift cX0_lift 5 none (rmq 1 22) [.ref (fa j_this), .ref (ad 2), .int x2] (sW ap ad la fa ra kc c_greys c_remembered c_columns c_rows c_settings c_reached c_order c_merged c_least c_greatest c_role c_head c_tail c_rank c_kindFrom c_kindTo c_side c_across c_down c_count c_flats c_crowded c_kinds c_first c_second c_pairs c_pairsWith c_voted c_ways c_shcount c_numberOfWay c_list c_fcount c_regions c_left c_open c_frows c_fshift c_fdx c_fdy c_fleastPlace c_fpairs c_foffset c_fplacesFirst c_fplaces) (sW ap ad la fa ra kc c_greys c_remembered c_columns c_rows c_settings c_reached c_order c_merged c_least c_greatest c_role c_head c_tail c_rank c_kindFrom c_kindTo c_side c_across c_down c_count c_flats c_crowded c_kinds c_first c_second c_pairs c_pairsWith c_voted c_ways c_shcount c_numberOfWay c_list c_fcount c_regions c_left c_open c_frows c_fshift c_fdx c_fdy c_fleastPlace c_fpairs (c_foffset') c_fplacesFirst c_fplaces) := by
  refine CTv.mk (by decide) (Nat.le_of_ble_eq_true rfl) ?_
  intro p e s m args below meth c A ls Q hQ S hr hlocks hN hA hK hl hP hD hS
  have hx := S.1
  have hb := S.2.1
  have hl : lv_has ls 5 [(0, .ref (fa j_this)), (1, .ref (ad 2)), (2, .int x2)] := hl
  unfold f_X0_lift at h
  refine lv_aload_n hx hb dX0_lift_0 rfl (lv_at hl 0 rfl) ?_
  refine r_get S gf_X0_32 hK hP (36 + j_this) (sW_f hj_this) rfl dX0_lift_1 ?_
  refine lv_bipush (v := 16) hx hb dX0_lift_4 (by decide) ?_
  refine lv_aload_n hx hb dX0_lift_6 rfl (lv_at hl 0 rfl) ?_
  refine r_get S gf_X0_29 hK hP (36 + j_this) (sW_f hj_this) rfl dX0_lift_7 ?_
  refine lv_imul hx hb dX0_lift_10 ?_
  refine lv_iadd hx hb dX0_lift_11 ?_
  refine lv_aload_n hx hb dX0_lift_12 rfl (lv_at hl 0 rfl) ?_
  refine r_get S gf_X0_23 hK hP (36 + j_this) (sW_f hj_this) rfl dX0_lift_13 ?_
  refine lv_iadd hx hb dX0_lift_16 ?_
  refine lv_istore_n (lv' := [(3, .int (((c_fleastPlace j_this) + (16 * (c_fdy j_this))) + (c_fdx j_this))), (0, .ref (fa j_this)), (1, .ref (ad 2)), (2, .int x2)]) hx hb dX0_lift_17 rfl hl (by decide) rfl (fun ls hl => ?_)
  refine lv_iload_n hx hb dX0_lift_18 rfl (lv_at hl 3 rfl) ?_
  refine lv_iconst (v := 1) hx hb dX0_lift_19 (by decide) ?_
  refine jn_w (fun (k : Int32 → Option ((Nat → Int32))) => ∀ (t_1 : Int32) (H : Heap) (locs : List Loc) (ls : Array Slot), VP G (sW ap ad la fa ra kc c_greys c_remembered c_columns c_rows c_settings c_reached c_order c_merged c_least c_greatest c_role c_head c_tail c_rank c_kindFrom c_kindTo c_side c_across c_down c_count c_flats c_crowded c_kinds c_first c_second c_pairs c_pairsWith c_voted c_ways c_shcount c_numberOfWay c_list c_fcount c_regions c_left c_open c_frows c_fshift c_fdx c_fdy c_fleastPlace c_fpairs c_foffset c_fplacesFirst c_fplaces) H → va_D A (sW ap ad la fa ra kc c_greys c_remembered c_columns c_rows c_settings c_reached c_order c_merged c_least c_greatest c_role c_head c_tail c_rank c_kindFrom c_kindTo c_side c_across c_down c_count c_flats c_crowded c_kinds c_first c_second c_pairs c_pairsWith c_voted c_ways c_shcount c_numberOfWay c_list c_fcount c_regions c_left c_open c_frows c_fshift c_fdx c_fdy c_fleastPlace c_fpairs c_foffset c_fplacesFirst c_fplaces) → va_S A s.heap H locs → lv_has ls 5 [(0, .ref (fa j_this)), (1, .ref (ad 2)), (3, .int (((c_fleastPlace j_this) + (16 * (c_fdy j_this))) + (c_fdx j_this)))] → k t_1 = some c_foffset' → WW p l e (rmq 1 22) s m args below meth c Q H locs 39 ls [.int t_1]) h ?_ ?_
  · intro t_1 H locs ls hP hD hS hl h
    refine lv_istore (lv' := [(4, .int t_1), (0, .ref (fa j_this)), (1, .ref (ad 2)), (3, .int (((c_fleastPlace j_this) + (16 * (c_fdy j_this))) + (c_fdx j_this)))]) hx hb dX0_lift_39 hl (by decide) rfl (fun ls hl => ?_)
    refine lv_aload_n hx hb dX0_lift_41 rfl (lv_at hl 1 rfl) ?_
    refine lv_iload hx hb dX0_lift_42 (lv_at hl 0 rfl) ?_
    refine jn_w (fun (k : Int32 → Option ((Nat → Int32))) => ∀ (t_4 : Int32) (H : Heap) (locs : List Loc) (ls : Array Slot), VP G (sW ap ad la fa ra kc c_greys c_remembered c_columns c_rows c_settings c_reached c_order c_merged c_least c_greatest c_role c_head c_tail c_rank c_kindFrom c_kindTo c_side c_across c_down c_count c_flats c_crowded c_kinds c_first c_second c_pairs c_pairsWith c_voted c_ways c_shcount c_numberOfWay c_list c_fcount c_regions c_left c_open c_frows c_fshift c_fdx c_fdy c_fleastPlace c_fpairs c_foffset c_fplacesFirst c_fplaces) H → va_D A (sW ap ad la fa ra kc c_greys c_remembered c_columns c_rows c_settings c_reached c_order c_merged c_least c_greatest c_role c_head c_tail c_rank c_kindFrom c_kindTo c_side c_across c_down c_count c_flats c_crowded c_kinds c_first c_second c_pairs c_pairsWith c_voted c_ways c_shcount c_numberOfWay c_list c_fcount c_regions c_left c_open c_frows c_fshift c_fdx c_fdy c_fleastPlace c_fpairs c_foffset c_fplacesFirst c_fplaces) → va_S A s.heap H locs → lv_has ls 5 [] → k t_4 = some c_foffset' → WW p l e (rmq 1 22) s m args below meth c Q H locs 67 ls [.int t_4, .ref (fa j_this)]) h ?_ ?_
    · intro t_4 H locs ls hP hD hS hl h
      refine r_put S pf_X0_61 hK hP hD hS (36 + j_this) (sW_f hj_this) (Nat.le_of_ble_eq_true rfl) dX0_lift_67 (fun H locs hP hD hS => ?_)
      have hP : VP G (sW ap ad la fa ra kc c_greys c_remembered c_columns c_rows c_settings c_reached c_order c_merged c_least c_greatest c_role c_head c_tail c_rank c_kindFrom c_kindTo c_side c_across c_down c_count c_flats c_crowded c_kinds c_first c_second c_pairs c_pairsWith c_voted c_ways c_shcount c_numberOfWay c_list c_fcount c_regions c_left c_open c_frows c_fshift c_fdx c_fdy c_fleastPlace c_fpairs (upd c_foffset j_this t_4) c_fplacesFirst c_fplaces) H := eqP (sW_fs_6 hj_this) hP
      have hD : va_D A (sW ap ad la fa ra kc c_greys c_remembered c_columns c_rows c_settings c_reached c_order c_merged c_least c_greatest c_role c_head c_tail c_rank c_kindFrom c_kindTo c_side c_across c_down c_count c_flats c_crowded c_kinds c_first c_second c_pairs c_pairsWith c_voted c_ways c_shcount c_numberOfWay c_list c_fcount c_regions c_left c_open c_frows c_fshift c_fdx c_fdy c_fleastPlace c_fpairs (upd c_foffset j_this t_4) c_fplacesFirst c_fplaces) := eqD (sW_fs_6 hj_this) hD
      cases h
      exact ret_v hx hb hr hQ hlocks hK hP hD hS dX0_lift_70
    · intro j_5 J_6 h
      refine lv_if_eq (tgt := 66) hx hb dX0_lift_44 (by decide) (fun q_9 => ?_) (fun q_9 => ?_)
      · have h := it_t q_9 h
        refine lv_iconst (v := 0) hx hb dX0_lift_66 (by decide) ?_
        exact J_6 0 _ _ _ hP hD hS (lv_sub hl [] rfl) h
      · have h := it_f q_9 h
        refine lv_aload_n hx hb dX0_lift_47 rfl (lv_at hl 2 rfl) ?_
        refine r_get S gf_X0_56 hK hP 5 rfl rfl dX0_lift_48 ?_
        refine lv_iload_n hx hb dX0_lift_51 rfl (lv_at hl 3 rfl) ?_
        refine r_iald hx hb hK hP 8 rfl dX0_lift_52 h (fun y_7 h => ?_)
        refine lv_aload_n hx hb dX0_lift_53 rfl (lv_at hl 2 rfl) ?_
        refine r_get S gf_X0_56 hK hP 5 rfl rfl dX0_lift_54 ?_
        refine lv_aload_n hx hb dX0_lift_57 rfl (lv_at hl 1 rfl) ?_
        refine r_get S gf_X0_32 hK hP (36 + j_this) (sW_f hj_this) rfl dX0_lift_58 ?_
        refine r_iald hx hb hK hP 8 rfl dX0_lift_61 h (fun y_8 h => ?_)
        refine lv_isub hx hb dX0_lift_62 ?_
        refine lv_goto (tgt := 67) hx hb dX0_lift_63 (by decide) ?_
        exact J_6 (y_7 - y_8) _ _ _ hP hD hS (lv_sub hl [] rfl) h
  · intro j_2 J_3 h
    refine lv_icmp_ne (tgt := 38) hx hb dX0_lift_20 (by decide) (fun q_12 => ?_) (fun q_12 => ?_)
    · have h := it_f q_12 h
      refine lv_iconst (v := 0) hx hb dX0_lift_38 (by decide) ?_
      exact J_3 0 _ _ _ hP hD hS (lv_sub hl [1, 2, 0] rfl) h
    · have h := it_t q_12 h
      refine lv_iload_n hx hb dX0_lift_23 rfl (lv_at hl 0 rfl) ?_
      refine lv_iconst (v := 0) hx hb dX0_lift_24 (by decide) ?_
      refine lv_sipush (v := 255) hx hb dX0_lift_25 (by decide) ?_
      obtain ⟨r_10, hq, h⟩ := bd1_e h
      refine cn_Si (rest := []) S hN cb_X7_isWithin mn_X0_52 ⟨Nat.le_of_ble_eq_true rfl, Nat.le_of_ble_eq_true rfl⟩ (c_X7_isWithin l G kc (((c_fleastPlace j_this) + (16 * (c_fdy j_this))) + (c_fdx j_this)) 0 255 hq) hK hP hD hS hA rfl rfl (Nat.le_of_ble_eq_true rfl) hl.1 dX0_lift_28 (fun H locs hP hD hS => ?_)
      refine lv_if_eq (tgt := 38) hx hb dX0_lift_31 (by decide) (fun q_11 => ?_) (fun q_11 => ?_)
      · have h := it_t q_11 h
        refine lv_iconst (v := 0) hx hb dX0_lift_38 (by decide) ?_
        exact J_3 0 _ _ _ hP hD hS (lv_sub hl [1, 2, 0] rfl) h
      · have h := it_f q_11 h
        refine lv_iconst (v := 1) hx hb dX0_lift_34 (by decide) ?_
        refine lv_goto (tgt := 39) hx hb dX0_lift_35 (by decide) ?_
        exact J_3 1 _ _ _ hP hD hS (lv_sub hl [1, 2, 0] rfl) h
set_option maxHeartbeats 1000000 in
set_option maxRecDepth 100000 in
theorem c_X3_widen (l : Launch) (G : va_G) (kc : Nat → ClassId) (a0 : Nat) {c_a : (Nat → Int32)} (x1 : Int32) {c_a' : (Nat → Int32)} {FU : Nat} (h : f_X3_widen FU c_a x1 = some c_a') : CTv l G kc yX3_widen cX3_widen 5 none (rmq 0 0) [.ref a0, .int x1] ([(a0, .inl (kc 0, 16, .inl c_a))]) ([(a0, .inl (kc 0, 16, .inl (c_a')))]) := by
  refine CTv.mk (by decide) (Nat.le_of_ble_eq_true rfl) ?_
  intro p e s m args below meth c A ls Q hQ S hr hlocks hN hA hK hl hP hD hS
  have hx := S.1
  have hb := S.2.1
  have hl : lv_has ls 5 [(0, .ref a0), (1, .int x1)] := hl
  unfold f_X3_widen at h
  refine lv_iconst (v := 0) hx hb dX3_widen_0 (by decide) ?_
  refine lv_istore_n (lv' := [(2, .int 0), (0, .ref a0), (1, .int x1)]) hx hb dX3_widen_1 rfl hl (by decide) rfl (fun ls hl => ?_)
  refine jn_w (t := fun k => f_X3_widen_L2 FU x1 k FU 0 c_a) (fun (k : Int32 → (Nat → Int32) → Option ((Nat → Int32))) => ∀ (x2_1 : Int32) (c_a_2 : (Nat → Int32)) (H : Heap) (locs : List Loc) (ls : Array Slot), VP G ([(a0, .inl (kc 0, 16, .inl c_a_2))]) H → va_D A ([(a0, .inl (kc 0, 16, .inl c_a_2))]) → va_S A s.heap H locs → lv_has ls 5 [(0, .ref a0), (1, .int x1)] → k x2_1 c_a_2 = some c_a' → WW p l e (rmq 0 0) s m args below meth c Q H locs 43 ls []) h ?_ ?_
  · intro x2_1 c_a_2 H locs ls hP hD hS hl h
    refine lv_bipush (v := 15) hx hb dX3_widen_43 (by decide) ?_
    refine lv_istore_n (lv' := [(2, .int 15), (0, .ref a0), (1, .int x1)]) hx hb dX3_widen_45 rfl hl (by decide) rfl (fun ls hl => ?_)
    refine jn_w (t := fun k => f_X3_widen_L46 FU x1 k FU 15 c_a_2) (fun (k : Int32 → (Nat → Int32) → Option ((Nat → Int32))) => ∀ (x2_6 : Int32) (c_a_7 : (Nat → Int32)) (H : Heap) (locs : List Loc) (ls : Array Slot), VP G ([(a0, .inl (kc 0, 16, .inl c_a_7))]) H → va_D A ([(a0, .inl (kc 0, 16, .inl c_a_7))]) → va_S A s.heap H locs → lv_has ls 5 [] → k x2_6 c_a_7 = some c_a' → WW p l e (rmq 0 0) s m args below meth c Q H locs 85 ls []) h ?_ ?_
    · intro x2_6 c_a_7 H locs ls hP hD hS hl h
      cases h
      exact ret_v hx hb hr hQ hlocks hK hP hD hS dX3_widen_85
    · intro k_8 K_9 h
      have L_10 : ∀ (n : Nat) (x2_6 : Int32) (c_a_7 : (Nat → Int32)) (H : Heap) (locs : List Loc) (ls : Array Slot), VP G ([(a0, .inl (kc 0, 16, .inl c_a_7))]) H → va_D A ([(a0, .inl (kc 0, 16, .inl c_a_7))]) → va_S A s.heap H locs → lv_has ls 5 [(0, .ref a0), (1, .int x1), (2, .int x2_6)] → f_X3_widen_L46 FU x1 k_8 n x2_6 c_a_7 = some c_a' → WW p l e (rmq 0 0) s m args below meth c Q H locs 46 ls [] := by
        intro n
        induction n with
        | zero => intro x2_6 c_a_7 H locs ls hP hD hS hl h; rw [f_X3_widen_L46] at h; cases h
        | succ n ih =>
          intro x2_6 c_a_7 H locs ls hP hD hS hl h
          rw [f_X3_widen_L46] at h
          refine lv_iload_n hx hb dX3_widen_46 rfl (lv_at hl 2 rfl) ?_
          refine lv_if_lt (tgt := 85) hx hb dX3_widen_47 (by decide) (fun q_21 => ?_) (fun q_21 => ?_)
          · have h := it_t q_21 h
            exact K_9 x2_6 c_a_7 _ _ _ hP hD hS (lv_sub hl [] rfl) h
          · have h := it_f q_21 h
            refine lv_iconst (v := 1) hx hb dX3_widen_50 (by decide) ?_
            refine lv_istore_n (lv' := [(3, .int 1), (0, .ref a0), (1, .int x1), (2, .int x2_6)]) hx hb dX3_widen_51 rfl hl (by decide) rfl (fun ls hl => ?_)
            refine jn_w (t := fun k => f_X3_widen_L52 FU x1 x2_6 k FU 1 c_a_7) (fun (k : Int32 → (Nat → Int32) → Option ((Nat → Int32))) => ∀ (x3_11 : Int32) (c_a_12 : (Nat → Int32)) (H : Heap) (locs : List Loc) (ls : Array Slot), VP G ([(a0, .inl (kc 0, 16, .inl c_a_12))]) H → va_D A ([(a0, .inl (kc 0, 16, .inl c_a_12))]) → va_S A s.heap H locs → lv_has ls 5 [(0, .ref a0), (1, .int x1), (2, .int x2_6)] → k x3_11 c_a_12 = some c_a' → WW p l e (rmq 0 0) s m args below meth c Q H locs 79 ls []) h ?_ ?_
            · intro x3_11 c_a_12 H locs ls hP hD hS hl h
              refine lv_iinc (v := (x2_6 + (-1))) (lv' := [(2, .int (x2_6 + (-1))), (0, .ref a0), (1, .int x1)]) hx hb dX3_widen_79 hl (k := 2) rfl rfl (by decide) rfl (fun ls hl => ?_)
              refine lv_goto (tgt := 46) hx hb dX3_widen_82 (by decide) ?_
              exact ih (x2_6 + (-1)) c_a_12 _ _ _ hP hD hS (lv_sub hl [1, 2, 0] rfl) h
            · intro k_13 K_14 h
              have L_15 : ∀ (n : Nat) (x3_11 : Int32) (c_a_12 : (Nat → Int32)) (H : Heap) (locs : List Loc) (ls : Array Slot), VP G ([(a0, .inl (kc 0, 16, .inl c_a_12))]) H → va_D A ([(a0, .inl (kc 0, 16, .inl c_a_12))]) → va_S A s.heap H locs → lv_has ls 5 [(0, .ref a0), (1, .int x1), (2, .int x2_6), (3, .int x3_11)] → f_X3_widen_L52 FU x1 x2_6 k_13 n x3_11 c_a_12 = some c_a' → WW p l e (rmq 0 0) s m args below meth c Q H locs 52 ls [] := by
                intro n
                induction n with
                | zero => intro x3_11 c_a_12 H locs ls hP hD hS hl h; rw [f_X3_widen_L52] at h; cases h
                | succ n ih =>
                  intro x3_11 c_a_12 H locs ls hP hD hS hl h
                  rw [f_X3_widen_L52] at h
                  refine lv_iload_n hx hb dX3_widen_52 rfl (lv_at hl 3 rfl) ?_
                  refine lv_iload_n hx hb dX3_widen_53 rfl (lv_at hl 1 rfl) ?_
                  refine lv_icmp_ge (tgt := 79) hx hb dX3_widen_54 (by decide) (fun q_20 => ?_) (fun q_20 => ?_)
                  · have h := it_t q_20 h
                    exact K_14 x3_11 c_a_12 _ _ _ hP hD hS (lv_sub hl [0, 1, 2] rfl) h
                  · have h := it_f q_20 h
                    refine lv_iload_n hx hb dX3_widen_57 rfl (lv_at hl 3 rfl) ?_
                    refine lv_iload_n hx hb dX3_widen_58 rfl (lv_at hl 2 rfl) ?_
                    refine lv_icmp_gt (tgt := 79) hx hb dX3_widen_59 (by decide) (fun q_19 => ?_) (fun q_19 => ?_)
                    · have h := it_t q_19 h
                      exact K_14 x3_11 c_a_12 _ _ _ hP hD hS (lv_sub hl [0, 1, 2] rfl) h
                    · have h := it_f q_19 h
                      refine lv_aload_n hx hb dX3_widen_62 rfl (lv_at hl 0 rfl) ?_
                      refine lv_iload_n hx hb dX3_widen_63 rfl (lv_at hl 2 rfl) ?_
                      refine lv_dup2_11 hx hb dX3_widen_64 rfl rfl ?_
                      refine r_iald hx hb hK hP 0 rfl dX3_widen_65 h (fun y_16 h => ?_)
                      refine lv_aload_n hx hb dX3_widen_66 rfl (lv_at hl 0 rfl) ?_
                      refine lv_iload_n hx hb dX3_widen_67 rfl (lv_at hl 2 rfl) ?_
                      refine lv_iload_n hx hb dX3_widen_68 rfl (lv_at hl 3 rfl) ?_
                      refine lv_isub hx hb dX3_widen_69 ?_
                      refine r_iald hx hb hK hP 0 rfl dX3_widen_70 h (fun y_17 h => ?_)
                      refine lv_ior hx hb dX3_widen_71 ?_
                      refine r_iast hx hb hK hP hD hS 0 rfl dX3_widen_72 h (fun c_a_18 H locs hP hD hS h => ?_)
                      have hP : VP G ([(a0, .inl (kc 0, 16, .inl c_a_18))]) H := hP
                      have hD : va_D A ([(a0, .inl (kc 0, 16, .inl c_a_18))]) := hD
                      refine lv_iinc (v := (x3_11 + 1)) (lv' := [(3, .int (x3_11 + 1)), (0, .ref a0), (1, .int x1), (2, .int x2_6)]) hx hb dX3_widen_73 hl (k := 3) rfl rfl (by decide) rfl (fun ls hl => ?_)
                      refine lv_goto (tgt := 52) hx hb dX3_widen_76 (by decide) ?_
                      exact ih (x3_11 + 1) c_a_18 _ _ _ hP hD hS (lv_sub hl [1, 2, 3, 0] rfl) h
              exact L_15 FU 1 c_a_7 _ _ _ hP hD hS (lv_sub hl [1, 2, 3, 0] rfl) h
      exact L_10 FU 15 c_a_2 _ _ _ hP hD hS (lv_sub hl [1, 2, 0] rfl) h
  · intro k_3 K_4 h
    have L_5 : ∀ (n : Nat) (x2_1 : Int32) (c_a_2 : (Nat → Int32)) (H : Heap) (locs : List Loc) (ls : Array Slot), VP G ([(a0, .inl (kc 0, 16, .inl c_a_2))]) H → va_D A ([(a0, .inl (kc 0, 16, .inl c_a_2))]) → va_S A s.heap H locs → lv_has ls 5 [(0, .ref a0), (1, .int x1), (2, .int x2_1)] → f_X3_widen_L2 FU x1 k_3 n x2_1 c_a_2 = some c_a' → WW p l e (rmq 0 0) s m args below meth c Q H locs 2 ls [] := by
      intro n
      induction n with
      | zero => intro x2_1 c_a_2 H locs ls hP hD hS hl h; rw [f_X3_widen_L2] at h; cases h
      | succ n ih =>
        intro x2_1 c_a_2 H locs ls hP hD hS hl h
        rw [f_X3_widen_L2] at h
        refine lv_iload_n hx hb dX3_widen_2 rfl (lv_at hl 2 rfl) ?_
        refine lv_bipush (v := 16) hx hb dX3_widen_3 (by decide) ?_
        refine lv_icmp_ge (tgt := 43) hx hb dX3_widen_5 (by decide) (fun q_31 => ?_) (fun q_31 => ?_)
        · have h := it_t q_31 h
          exact K_4 x2_1 c_a_2 _ _ _ hP hD hS (lv_sub hl [0, 1] rfl) h
        · have h := it_f q_31 h
          refine lv_aload_n hx hb dX3_widen_8 rfl (lv_at hl 0 rfl) ?_
          refine lv_iload_n hx hb dX3_widen_9 rfl (lv_at hl 2 rfl) ?_
          refine r_iald hx hb hK hP 0 rfl dX3_widen_10 h (fun y_22 h => ?_)
          refine lv_istore_n (lv' := [(3, .int y_22), (0, .ref a0), (1, .int x1), (2, .int x2_1)]) hx hb dX3_widen_11 rfl hl (by decide) rfl (fun ls hl => ?_)
          refine lv_iconst (v := 1) hx hb dX3_widen_12 (by decide) ?_
          refine lv_istore (lv' := [(4, .int 1), (3, .int y_22), (0, .ref a0), (1, .int x1), (2, .int x2_1)]) hx hb dX3_widen_13 hl (by decide) rfl (fun ls hl => ?_)
          refine jn_w (t := fun k => f_X3_widen_L15 FU x1 x2_1 y_22 k FU 1 c_a_2) (fun (k : Int32 → (Nat → Int32) → Option ((Nat → Int32))) => ∀ (x4_23 : Int32) (c_a_24 : (Nat → Int32)) (H : Heap) (locs : List Loc) (ls : Array Slot), VP G ([(a0, .inl (kc 0, 16, .inl c_a_24))]) H → va_D A ([(a0, .inl (kc 0, 16, .inl c_a_24))]) → va_S A s.heap H locs → lv_has ls 5 [(0, .ref a0), (1, .int x1), (2, .int x2_1)] → k x4_23 c_a_24 = some c_a' → WW p l e (rmq 0 0) s m args below meth c Q H locs 37 ls []) h ?_ ?_
          · intro x4_23 c_a_24 H locs ls hP hD hS hl h
            refine lv_iinc (v := (x2_1 + 1)) (lv' := [(2, .int (x2_1 + 1)), (0, .ref a0), (1, .int x1)]) hx hb dX3_widen_37 hl (k := 2) rfl rfl (by decide) rfl (fun ls hl => ?_)
            refine lv_goto (tgt := 2) hx hb dX3_widen_40 (by decide) ?_
            exact ih (x2_1 + 1) c_a_24 _ _ _ hP hD hS (lv_sub hl [1, 2, 0] rfl) h
          · intro k_25 K_26 h
            have L_27 : ∀ (n : Nat) (x4_23 : Int32) (c_a_24 : (Nat → Int32)) (H : Heap) (locs : List Loc) (ls : Array Slot), VP G ([(a0, .inl (kc 0, 16, .inl c_a_24))]) H → va_D A ([(a0, .inl (kc 0, 16, .inl c_a_24))]) → va_S A s.heap H locs → lv_has ls 5 [(0, .ref a0), (1, .int x1), (2, .int x2_1), (3, .int y_22), (4, .int x4_23)] → f_X3_widen_L15 FU x1 x2_1 y_22 k_25 n x4_23 c_a_24 = some c_a' → WW p l e (rmq 0 0) s m args below meth c Q H locs 15 ls [] := by
              intro n
              induction n with
              | zero => intro x4_23 c_a_24 H locs ls hP hD hS hl h; rw [f_X3_widen_L15] at h; cases h
              | succ n ih =>
                intro x4_23 c_a_24 H locs ls hP hD hS hl h
                rw [f_X3_widen_L15] at h
                refine lv_iload hx hb dX3_widen_15 (lv_at hl 4 rfl) ?_
                refine lv_iload_n hx hb dX3_widen_17 rfl (lv_at hl 1 rfl) ?_
                refine lv_icmp_ge (tgt := 37) hx hb dX3_widen_18 (by decide) (fun q_30 => ?_) (fun q_30 => ?_)
                · have h := it_t q_30 h
                  exact K_26 x4_23 c_a_24 _ _ _ hP hD hS (lv_sub hl [0, 1, 2] rfl) h
                · have h := it_f q_30 h
                  refine lv_aload_n hx hb dX3_widen_21 rfl (lv_at hl 0 rfl) ?_
                  refine lv_iload_n hx hb dX3_widen_22 rfl (lv_at hl 2 rfl) ?_
                  refine lv_dup2_11 hx hb dX3_widen_23 rfl rfl ?_
                  refine r_iald hx hb hK hP 0 rfl dX3_widen_24 h (fun y_28 h => ?_)
                  refine lv_iload_n hx hb dX3_widen_25 rfl (lv_at hl 3 rfl) ?_
                  refine lv_iload hx hb dX3_widen_26 (lv_at hl 4 rfl) ?_
                  refine lv_ishl hx hb dX3_widen_28 ?_
                  refine lv_ior hx hb dX3_widen_29 ?_
                  refine r_iast hx hb hK hP hD hS 0 rfl dX3_widen_30 h (fun c_a_29 H locs hP hD hS h => ?_)
                  have hP : VP G ([(a0, .inl (kc 0, 16, .inl c_a_29))]) H := hP
                  have hD : va_D A ([(a0, .inl (kc 0, 16, .inl c_a_29))]) := hD
                  refine lv_iinc (v := (x4_23 + 1)) (lv' := [(4, .int (x4_23 + 1)), (0, .ref a0), (1, .int x1), (2, .int x2_1), (3, .int y_22)]) hx hb dX3_widen_31 hl (k := 4) rfl rfl (by decide) rfl (fun ls hl => ?_)
                  refine lv_goto (tgt := 15) hx hb dX3_widen_34 (by decide) ?_
                  exact ih (x4_23 + 1) c_a_29 _ _ _ hP hD hS (lv_sub hl [1, 2, 3, 4, 0] rfl) h
            exact L_27 FU 1 c_a_2 _ _ _ hP hD hS (lv_sub hl [2, 3, 4, 1, 0] rfl) h
    exact L_5 FU 0 c_a _ _ _ hP hD hS (lv_sub hl [1, 2, 0] rfl) h
set_option maxHeartbeats 1000000 in
set_option maxRecDepth 100000 in
theorem c_X2_has (l : Launch) (G : va_G) (kc : Nat → ClassId) (ap : Nat → Nat) {c_greys : (Nat → Int32)} {c_remembered : (Nat → Int32)} {c_columns : Int32} {c_rows : Int32} (x1 : Int32) (x2 : Int32) {r : Int32} {FU : Nat} (h : f_X2_has FU c_columns c_rows x1 x2 = some r) : CTi l G kc yX2_has cX2_has 3 (some .boolean) (rmq 0 0) [.ref (ap 0), .int x1, .int x2] (pW ap kc c_greys c_remembered c_columns c_rows) (pW ap kc c_greys c_remembered c_columns c_rows) r := by
  refine CTi.mk (by decide) (Nat.le_of_ble_eq_true rfl) ?_
  intro p e s m args below meth c A ls Q hQ S hr hlocks hN hA hK hl hP hD hS
  have hx := S.1
  have hb := S.2.1
  have hl : lv_has ls 3 [(0, .ref (ap 0)), (1, .int x1), (2, .int x2)] := hl
  unfold f_X2_has at h
  refine lv_iload_n hx hb dX2_has_0 rfl (lv_at hl 1 rfl) ?_
  refine lv_if_lt (tgt := 28) hx hb dX2_has_1 (by decide) (fun q_4 => ?_) (fun q_4 => ?_)
  · have h := it_t q_4 h
    refine lv_iconst (v := 0) hx hb dX2_has_28 (by decide) ?_
    cases h
    exact ret_i hx hb hr rfl hQ hlocks hK hP hD hS dX2_has_29
  · have h := it_f q_4 h
    refine lv_iload_n hx hb dX2_has_4 rfl (lv_at hl 1 rfl) ?_
    refine lv_aload_n hx hb dX2_has_5 rfl (lv_at hl 0 rfl) ?_
    refine r_get S gf_X2_18 hK hP 0 rfl rfl dX2_has_6 ?_
    refine lv_icmp_ge (tgt := 28) hx hb dX2_has_9 (by decide) (fun q_3 => ?_) (fun q_3 => ?_)
    · have h := it_t q_3 h
      refine lv_iconst (v := 0) hx hb dX2_has_28 (by decide) ?_
      cases h
      exact ret_i hx hb hr rfl hQ hlocks hK hP hD hS dX2_has_29
    · have h := it_f q_3 h
      refine lv_iload_n hx hb dX2_has_12 rfl (lv_at hl 2 rfl) ?_
      refine lv_if_lt (tgt := 28) hx hb dX2_has_13 (by decide) (fun q_2 => ?_) (fun q_2 => ?_)
      · have h := it_t q_2 h
        refine lv_iconst (v := 0) hx hb dX2_has_28 (by decide) ?_
        cases h
        exact ret_i hx hb hr rfl hQ hlocks hK hP hD hS dX2_has_29
      · have h := it_f q_2 h
        refine lv_iload_n hx hb dX2_has_16 rfl (lv_at hl 2 rfl) ?_
        refine lv_aload_n hx hb dX2_has_17 rfl (lv_at hl 0 rfl) ?_
        refine r_get S gf_X2_22 hK hP 0 rfl rfl dX2_has_18 ?_
        refine lv_icmp_ge (tgt := 28) hx hb dX2_has_21 (by decide) (fun q_1 => ?_) (fun q_1 => ?_)
        · have h := it_t q_1 h
          refine lv_iconst (v := 0) hx hb dX2_has_28 (by decide) ?_
          cases h
          exact ret_i hx hb hr rfl hQ hlocks hK hP hD hS dX2_has_29
        · have h := it_f q_1 h
          refine lv_iconst (v := 1) hx hb dX2_has_24 (by decide) ?_
          refine lv_goto (tgt := 29) hx hb dX2_has_25 (by decide) ?_
          cases h
          exact ret_i hx hb hr rfl hQ hlocks hK hP hD hS dX2_has_29
set_option maxHeartbeats 1000000 in
set_option maxRecDepth 100000 in
theorem c_X0_missOf (l : Launch) (G : va_G) (kc : Nat → ClassId) (ap ad la fa ra : Nat → Nat) {c_greys : (Nat → Int32)} {c_remembered : (Nat → Int32)} {c_columns : Int32} {c_rows : Int32} {c_settings : (Nat → Int32)} {c_reached : Int32} {c_order : (Nat → Int32)} {c_merged : (Nat → Int32)} {c_least : (Nat → Int32)} {c_greatest : (Nat → Int32)} {c_role : (Nat → Int32)} {c_head : (Nat → Int64)} {c_tail : (Nat → Int64)} {c_rank : (Nat → Int32)} {c_kindFrom : (Nat → Int32)} {c_kindTo : (Nat → Int32)} {c_side : Int32} {c_across : Int32} {c_down : Int32} {c_count : Int32} {c_flats : Int32} {c_crowded : Int32} {c_kinds : Int32} {c_first : (Nat → Int32)} {c_second : (Nat → Int32)} {c_pairs : Int32} {c_pairsWith : (Nat → Int32)} {c_voted : (Nat → Int32)} {c_ways : (Nat → Int32)} {c_shcount : Int32} {c_numberOfWay : (Nat → Int32)} {c_list : (Nat → Nat)} {c_fcount : Int32} {c_regions : (Nat → Int32)} {c_left : (Nat → Nat → Int32)} {c_open : (Nat → Int32)} {c_frows : (Nat → Nat → Int32)} {c_fshift : (Nat → Int32)} {c_fdx : (Nat → Int32)} {c_fdy : (Nat → Int32)} {c_fleastPlace : (Nat → Int32)} {c_fpairs : (Nat → Int32)} {c_foffset : (Nat → Int32)} {c_fplacesFirst : (Nat → Int32)} {c_fplaces : (Nat → Int32)} (x2 : Int32) (x3 : Int32) {j_this : Nat} (hj_this : j_this < 25) {r : Int32} {FU : Nat} (h : f_X0_missOf FU c_greys c_columns c_rows c_fdx c_fdy c_foffset j_this x2 x3 = some r) : CTi l G kc yX0_missOf cX0_missOf 6 (some .int) (rmq 1 22) [.ref (fa j_this), .ref (ap 0), .int x2, .int x3] (sW ap ad la fa ra kc c_greys c_remembered c_columns c_rows c_settings c_reached c_order c_merged c_least c_greatest c_role c_head c_tail c_rank c_kindFrom c_kindTo c_side c_across c_down c_count c_flats c_crowded c_kinds c_first c_second c_pairs c_pairsWith c_voted c_ways c_shcount c_numberOfWay c_list c_fcount c_regions c_left c_open c_frows c_fshift c_fdx c_fdy c_fleastPlace c_fpairs c_foffset c_fplacesFirst c_fplaces) (sW ap ad la fa ra kc c_greys c_remembered c_columns c_rows c_settings c_reached c_order c_merged c_least c_greatest c_role c_head c_tail c_rank c_kindFrom c_kindTo c_side c_across c_down c_count c_flats c_crowded c_kinds c_first c_second c_pairs c_pairsWith c_voted c_ways c_shcount c_numberOfWay c_list c_fcount c_regions c_left c_open c_frows c_fshift c_fdx c_fdy c_fleastPlace c_fpairs c_foffset c_fplacesFirst c_fplaces) r := by
  refine CTi.mk (by decide) (Nat.le_of_ble_eq_true rfl) ?_
  intro p e s m args below meth c A ls Q hQ S hr hlocks hN hA hK hl hP hD hS
  have hx := S.1
  have hb := S.2.1
  have hl : lv_has ls 6 [(0, .ref (fa j_this)), (1, .ref (ap 0)), (2, .int x2), (3, .int x3)] := hl
  unfold f_X0_missOf at h
  refine lv_aload_n hx hb dX0_missOf_0 rfl (lv_at hl 1 rfl) ?_
  refine lv_iload_n hx hb dX0_missOf_1 rfl (lv_at hl 2 rfl) ?_
  refine lv_iload_n hx hb dX0_missOf_2 rfl (lv_at hl 3 rfl) ?_
  obtain ⟨r_1, hq, h⟩ := bd1_e h
  refine cp_Vi (rest := []) (ci := 2) [0, 1, 2] S hN cb_X2_has ml_X0_78 ⟨Nat.le_of_ble_eq_true rfl, Nat.le_of_ble_eq_true rfl⟩ (c_X2_has l G kc ap x2 x3 hq) hK hP hD hS hA rfl rfl rfl 0 rfl rfl rfl rfl rfl (Nat.le_of_ble_eq_true rfl) hl.1 dX0_missOf_3 (fun H locs hP hD hS => ?_)
  have hP : VP G (sW ap ad la fa ra kc c_greys c_remembered c_columns c_rows c_settings c_reached c_order c_merged c_least c_greatest c_role c_head c_tail c_rank c_kindFrom c_kindTo c_side c_across c_down c_count c_flats c_crowded c_kinds c_first c_second c_pairs c_pairsWith c_voted c_ways c_shcount c_numberOfWay c_list c_fcount c_regions c_left c_open c_frows c_fshift c_fdx c_fdy c_fleastPlace c_fpairs c_foffset c_fplacesFirst c_fplaces) H := hP
  have hD : va_D A (sW ap ad la fa ra kc c_greys c_remembered c_columns c_rows c_settings c_reached c_order c_merged c_least c_greatest c_role c_head c_tail c_rank c_kindFrom c_kindTo c_side c_across c_down c_count c_flats c_crowded c_kinds c_first c_second c_pairs c_pairsWith c_voted c_ways c_shcount c_numberOfWay c_list c_fcount c_regions c_left c_open c_frows c_fshift c_fdx c_fdy c_fleastPlace c_fpairs c_foffset c_fplacesFirst c_fplaces) := hD
  refine lv_if_eq (tgt := 28) hx hb dX0_missOf_6 (by decide) (fun q_6 => ?_) (fun q_6 => ?_)
  · have h := it_t q_6 h
    refine lv_bipush (v := (-9)) hx hb dX0_missOf_28 (by decide) ?_
    cases h
    exact ret_i hx hb hr rfl hQ hlocks hK hP hD hS dX0_missOf_30
  · have h := it_f q_6 h
    refine lv_aload_n hx hb dX0_missOf_9 rfl (lv_at hl 1 rfl) ?_
    refine lv_iload_n hx hb dX0_missOf_10 rfl (lv_at hl 2 rfl) ?_
    refine lv_aload_n hx hb dX0_missOf_11 rfl (lv_at hl 0 rfl) ?_
    refine r_get S gf_X0_23 hK hP (36 + j_this) (sW_f hj_this) rfl dX0_missOf_12 ?_
    refine lv_iadd hx hb dX0_missOf_15 ?_
    refine lv_iload_n hx hb dX0_missOf_16 rfl (lv_at hl 3 rfl) ?_
    refine lv_aload_n hx hb dX0_missOf_17 rfl (lv_at hl 0 rfl) ?_
    refine r_get S gf_X0_29 hK hP (36 + j_this) (sW_f hj_this) rfl dX0_missOf_18 ?_
    refine lv_iadd hx hb dX0_missOf_21 ?_
    obtain ⟨r_2, hq, h⟩ := bd1_e h
    refine cp_Vi (rest := []) (ci := 2) [0, 1, 2] S hN cb_X2_has ml_X0_78 ⟨Nat.le_of_ble_eq_true rfl, Nat.le_of_ble_eq_true rfl⟩ (c_X2_has l G kc ap (x2 + (c_fdx j_this)) (x3 + (c_fdy j_this)) hq) hK hP hD hS hA rfl rfl rfl 0 rfl rfl rfl rfl rfl (Nat.le_of_ble_eq_true rfl) hl.1 dX0_missOf_22 (fun H locs hP hD hS => ?_)
    have hP : VP G (sW ap ad la fa ra kc c_greys c_remembered c_columns c_rows c_settings c_reached c_order c_merged c_least c_greatest c_role c_head c_tail c_rank c_kindFrom c_kindTo c_side c_across c_down c_count c_flats c_crowded c_kinds c_first c_second c_pairs c_pairsWith c_voted c_ways c_shcount c_numberOfWay c_list c_fcount c_regions c_left c_open c_frows c_fshift c_fdx c_fdy c_fleastPlace c_fpairs c_foffset c_fplacesFirst c_fplaces) H := hP
    have hD : va_D A (sW ap ad la fa ra kc c_greys c_remembered c_columns c_rows c_settings c_reached c_order c_merged c_least c_greatest c_role c_head c_tail c_rank c_kindFrom c_kindTo c_side c_across c_down c_count c_flats c_crowded c_kinds c_first c_second c_pairs c_pairsWith c_voted c_ways c_shcount c_numberOfWay c_list c_fcount c_regions c_left c_open c_frows c_fshift c_fdx c_fdy c_fleastPlace c_fpairs c_foffset c_fplacesFirst c_fplaces) := hD
    refine lv_if_ne (tgt := 31) hx hb dX0_missOf_25 (by decide) (fun q_5 => ?_) (fun q_5 => ?_)
    · have h := it_f q_5 h
      refine lv_aload_n hx hb dX0_missOf_31 rfl (lv_at hl 1 rfl) ?_
      refine r_get S gf_X0_84 hK hP 0 rfl rfl dX0_missOf_32 ?_
      refine lv_bipush (v := 16) hx hb dX0_missOf_35 (by decide) ?_
      refine lv_iload_n hx hb dX0_missOf_37 rfl (lv_at hl 3 rfl) ?_
      refine lv_imul hx hb dX0_missOf_38 ?_
      refine lv_iload_n hx hb dX0_missOf_39 rfl (lv_at hl 2 rfl) ?_
      refine lv_iadd hx hb dX0_missOf_40 ?_
      refine r_iald hx hb hK hP 1 rfl dX0_missOf_41 h (fun y_3 h => ?_)
      refine lv_istore (lv' := [(4, .int y_3), (0, .ref (fa j_this)), (1, .ref (ap 0)), (2, .int x2), (3, .int x3)]) hx hb dX0_missOf_42 hl (by decide) rfl (fun ls hl => ?_)
      refine lv_aload_n hx hb dX0_missOf_44 rfl (lv_at hl 2 rfl) ?_
      refine r_get S gf_X0_84 hK hP 0 rfl rfl dX0_missOf_45 ?_
      refine lv_bipush (v := 16) hx hb dX0_missOf_48 (by decide) ?_
      refine lv_iload_n hx hb dX0_missOf_50 rfl (lv_at hl 4 rfl) ?_
      refine lv_aload_n hx hb dX0_missOf_51 rfl (lv_at hl 1 rfl) ?_
      refine r_get S gf_X0_29 hK hP (36 + j_this) (sW_f hj_this) rfl dX0_missOf_52 ?_
      refine lv_iadd hx hb dX0_missOf_55 ?_
      refine lv_imul hx hb dX0_missOf_56 ?_
      refine lv_iload_n hx hb dX0_missOf_57 rfl (lv_at hl 3 rfl) ?_
      refine lv_iadd hx hb dX0_missOf_58 ?_
      refine lv_aload_n hx hb dX0_missOf_59 rfl (lv_at hl 1 rfl) ?_
      refine r_get S gf_X0_23 hK hP (36 + j_this) (sW_f hj_this) rfl dX0_missOf_60 ?_
      refine lv_iadd hx hb dX0_missOf_63 ?_
      refine r_iald hx hb hK hP 1 rfl dX0_missOf_64 h (fun y_4 h => ?_)
      refine lv_istore (lv' := [(5, .int y_4), (4, .int y_3), (0, .ref (fa j_this)), (1, .ref (ap 0)), (2, .int x2), (3, .int x3)]) hx hb dX0_missOf_65 hl (by decide) rfl (fun ls hl => ?_)
      refine lv_iload hx hb dX0_missOf_67 (lv_at hl 0 rfl) ?_
      refine lv_iload hx hb dX0_missOf_69 (lv_at hl 1 rfl) ?_
      refine lv_isub hx hb dX0_missOf_71 ?_
      refine lv_aload_n hx hb dX0_missOf_72 rfl (lv_at hl 2 rfl) ?_
      refine r_get S gf_X0_61 hK hP (36 + j_this) (sW_f hj_this) rfl dX0_missOf_73 ?_
      refine lv_isub hx hb dX0_missOf_76 ?_
      refine va_mabs hx hb (S.2.2.1.trans hl.1.symm) S.2.2.2.1 (S.2.2.2.2 _ mm_X0_87) (S.2.2.2.2 _ ms_abs) (S.2.2.2.2 _ ms_init) (S.2.2.2.2 _ mc_abs) (Nat.le_of_ble_eq_true rfl) (Nat.le_of_ble_eq_true rfl) (Nat.zero_le _) (Nat.zero_le _) dX0_missOf_77 ?_
      cases h
      exact ret_i hx hb hr rfl hQ hlocks hK hP hD hS dX0_missOf_80
    · have h := it_t q_5 h
      refine lv_bipush (v := (-9)) hx hb dX0_missOf_28 (by decide) ?_
      cases h
      exact ret_i hx hb hr rfl hQ hlocks hK hP hD hS dX0_missOf_30
