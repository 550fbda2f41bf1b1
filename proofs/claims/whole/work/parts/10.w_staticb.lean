def m_X5_lives (fu : Nat) (x0 : Int64) (x2 : Int32) : Option Int32 :=
  bd (m_X5_leavesOf fu x0 x2) (fun v_2 => (if v_2 = (0 : Int32) then some (0 : Int32) else some (1 : Int32)))
set_option maxRecDepth 100000 in
set_option maxHeartbeats 4000000 in
theorem k_X5_lives (l : Launch) (D : va_G) (cy : ClassId) (w : ST → va_W) (S : ST) (fu : Nat) (x0 : Int64) (x2 : Int32) (r : Int32) (h : m_X5_lives fu x0 x2 = some r) : CtI l yX5_lives cX5_lives 3 (some .boolean) 1 [.long x0, .int x2] D cy w S r S := by
  refine CtI_of (by decide) (Nat.le_of_ble_eq_true rfl) ?_
  intro p e s m args below meth c A ls hC hr hk hw hl
  have hC : Cx p s m c RX5 cX5_lives 3 args D cy := hC
  have hx := hC.1
  have hb := hC.2.1
  have hl : lv_has ls 3 [(0, .long x0), (2, .int x2)] := hl
  obtain ⟨H, eH⟩ : ∃ z : Heap, z = s.heap := ⟨_, rfl⟩
  obtain ⟨locs, elocs⟩ : ∃ z : List Loc, z = [] := ⟨_, rfl⟩
  have hw : InW D w A s.heap H locs S := by rw [eH, elocs]; exact hw
  suffices hsu : W p l e (rmN 1) s m args below meth c H locs 0 0 (QI below args s D w A r S) (F0 m 0 ls []) by rw [eH, elocs] at hsu; exact hsu
  unfold m_X5_lives at h
  refine lv_lload_n hx hb dX5_lives_0 rfl (lv_at hl 0 rfl) ?_
  refine lv_iload_n hx hb dX5_lives_1 rfl (lv_at hl 1 rfl) ?_
  obtain ⟨v_2, hc_1, h⟩ := bd_at h
  refine caSI (As := [.long x0, .int x2]) (rest := []) hC hw hl.1 lm_RX5_11 li_RX5 lk_yX5_leavesOf ls_yX5_leavesOf 2 rfl hd_X5_leavesOf (by decide) (by decide) (Nat.le_of_ble_eq_true rfl) dX5_lives_2 (k_X5_leavesOf l D cy w S fu x0 x2 _ hc_1) (fun H locs hw => ?_)
  refine lv_if_eq (tgt := 12) hx hb dX5_lives_5 (by decide) (fun c_3 => ?_) (fun c_3 => ?_)
  · have h := if_at_t c_3 h
    refine lv_iconst (v := 0) hx hb dX5_lives_12 (by decide) ?_
    exact rtZ hC hr hk hw rfl (so_at h) rfl dX5_lives_13
  · have h := if_at_f c_3 h
    refine lv_iconst (v := 1) hx hb dX5_lives_8 (by decide) ?_
    refine lv_goto (tgt := 13) hx hb dX5_lives_9 (by decide) ?_
    exact rtZ hC hr hk hw rfl (so_at h) rfl dX5_lives_13
def m_X2_isSuch (fu : Nat) (x0 : Int32) (x1 : Int32) : Option Int32 :=
  (if x1 = (0 : Int32) then some (1 : Int32) else (if x0 = x1 then some (1 : Int32) else (if x0 = (4 : Int32) then (if x1 = (3 : Int32) then some (1 : Int32) else some (0 : Int32)) else some (0 : Int32))))
set_option maxRecDepth 100000 in
set_option maxHeartbeats 4000000 in
theorem k_X2_isSuch (l : Launch) (D : va_G) (cy : ClassId) (w : ST → va_W) (S : ST) (fu : Nat) (x0 : Int32) (x1 : Int32) (r : Int32) (h : m_X2_isSuch fu x0 x1 = some r) : CtI l yX2_isSuch cX2_isSuch 2 (some .boolean) 0 [.int x0, .int x1] D cy w S r S := by
  refine CtI_of (by decide) (Nat.le_of_ble_eq_true rfl) ?_
  intro p e s m args below meth c A ls hC hr hk hw hl
  have hC : Cx p s m c RX2 cX2_isSuch 2 args D cy := hC
  have hx := hC.1
  have hb := hC.2.1
  have hl : lv_has ls 2 [(0, .int x0), (1, .int x1)] := hl
  obtain ⟨H, eH⟩ : ∃ z : Heap, z = s.heap := ⟨_, rfl⟩
  obtain ⟨locs, elocs⟩ : ∃ z : List Loc, z = [] := ⟨_, rfl⟩
  have hw : InW D w A s.heap H locs S := by rw [eH, elocs]; exact hw
  suffices hsu : W p l e (rmN 0) s m args below meth c H locs 0 0 (QI below args s D w A r S) (F0 m 0 ls []) by rw [eH, elocs] at hsu; exact hsu
  unfold m_X2_isSuch at h
  refine lv_iload_n hx hb dX2_isSuch_0 rfl (lv_at hl 1 rfl) ?_
  refine lv_if_eq (tgt := 19) hx hb dX2_isSuch_1 (by decide) (fun c_1 => ?_) (fun c_1 => ?_)
  · have h := if_at_t c_1 h
    refine lv_iconst (v := 1) hx hb dX2_isSuch_19 (by decide) ?_
    refine lv_goto (tgt := 24) hx hb dX2_isSuch_20 (by decide) ?_
    exact rtZ hC hr hk hw rfl (so_at h) rfl dX2_isSuch_24
  · have h := if_at_f c_1 h
    refine lv_iload_n hx hb dX2_isSuch_4 rfl (lv_at hl 0 rfl) ?_
    refine lv_iload_n hx hb dX2_isSuch_5 rfl (lv_at hl 1 rfl) ?_
    refine lv_icmp_eq (tgt := 19) hx hb dX2_isSuch_6 (by decide) (fun c_2 => ?_) (fun c_2 => ?_)
    · have h := if_at_t c_2 h
      refine lv_iconst (v := 1) hx hb dX2_isSuch_19 (by decide) ?_
      refine lv_goto (tgt := 24) hx hb dX2_isSuch_20 (by decide) ?_
      exact rtZ hC hr hk hw rfl (so_at h) rfl dX2_isSuch_24
    · have h := if_at_f c_2 h
      refine lv_iload_n hx hb dX2_isSuch_9 rfl (lv_at hl 0 rfl) ?_
      refine lv_iconst (v := 4) hx hb dX2_isSuch_10 (by decide) ?_
      refine lv_icmp_ne (tgt := 23) hx hb dX2_isSuch_11 (by decide) (fun c_3 => ?_) (fun c_3 => ?_)
      · have h := if_at_f c_3 h
        refine lv_iconst (v := 0) hx hb dX2_isSuch_23 (by decide) ?_
        exact rtZ hC hr hk hw rfl (so_at h) rfl dX2_isSuch_24
      · have h := if_at_t c_3 h
        refine lv_iload_n hx hb dX2_isSuch_14 rfl (lv_at hl 1 rfl) ?_
        refine lv_iconst (v := 3) hx hb dX2_isSuch_15 (by decide) ?_
        refine lv_icmp_ne (tgt := 23) hx hb dX2_isSuch_16 (by decide) (fun c_4 => ?_) (fun c_4 => ?_)
        · have h := if_at_f c_4 h
          refine lv_iconst (v := 0) hx hb dX2_isSuch_23 (by decide) ?_
          exact rtZ hC hr hk hw rfl (so_at h) rfl dX2_isSuch_24
        · have h := if_at_t c_4 h
          refine lv_iconst (v := 1) hx hb dX2_isSuch_19 (by decide) ?_
          refine lv_goto (tgt := 24) hx hb dX2_isSuch_20 (by decide) ?_
          exact rtZ hC hr hk hw rfl (so_at h) rfl dX2_isSuch_24
def m_X2_namesOf (fu : Nat) (x0 : Int32) : Option Int32 :=
  (if x0 = (1 : Int32) then some (6 : Int32) else bd (m_X2_isSuch fu x0 (3 : Int32)) (fun v_3 => (if v_3 = (0 : Int32) then some (2 : Int32) else some (3 : Int32))))
set_option maxRecDepth 100000 in
set_option maxHeartbeats 4000000 in
theorem k_X2_namesOf (l : Launch) (D : va_G) (cy : ClassId) (w : ST → va_W) (S : ST) (fu : Nat) (x0 : Int32) (r : Int32) (h : m_X2_namesOf fu x0 = some r) : CtI l yX2_namesOf cX2_namesOf 1 (some .int) 1 [.int x0] D cy w S r S := by
  refine CtI_of (by decide) (Nat.le_of_ble_eq_true rfl) ?_
  intro p e s m args below meth c A ls hC hr hk hw hl
  have hC : Cx p s m c RX2 cX2_namesOf 1 args D cy := hC
  have hx := hC.1
  have hb := hC.2.1
  have hl : lv_has ls 1 [(0, .int x0)] := hl
  obtain ⟨H, eH⟩ : ∃ z : Heap, z = s.heap := ⟨_, rfl⟩
  obtain ⟨locs, elocs⟩ : ∃ z : List Loc, z = [] := ⟨_, rfl⟩
  have hw : InW D w A s.heap H locs S := by rw [eH, elocs]; exact hw
  suffices hsu : W p l e (rmN 1) s m args below meth c H locs 0 0 (QI below args s D w A r S) (F0 m 0 ls []) by rw [eH, elocs] at hsu; exact hsu
  unfold m_X2_namesOf at h
  refine lv_iload_n hx hb dX2_namesOf_0 rfl (lv_at hl 0 rfl) ?_
  refine lv_iconst (v := 1) hx hb dX2_namesOf_1 (by decide) ?_
  refine lv_icmp_ne (tgt := 8) hx hb dX2_namesOf_2 (by decide) (fun c_1 => ?_) (fun c_1 => ?_)
  · have h := if_at_f c_1 h
    refine lv_iload_n hx hb dX2_namesOf_8 rfl (lv_at hl 0 rfl) ?_
    refine lv_iconst (v := 3) hx hb dX2_namesOf_9 (by decide) ?_
    obtain ⟨v_3, hc_2, h⟩ := bd_at h
    refine caSI (As := [.int x0, .int (3 : Int32)]) (rest := []) hC hw hl.1 lm_RX2_15 li_RX2 lk_yX2_isSuch ls_yX2_isSuch 2 rfl hd_X2_isSuch (by decide) (by decide) (Nat.le_of_ble_eq_true rfl) dX2_namesOf_10 (k_X2_isSuch l D cy w S fu x0 (3 : Int32) _ hc_2) (fun H locs hw => ?_)
    refine lv_if_eq (tgt := 20) hx hb dX2_namesOf_13 (by decide) (fun c_4 => ?_) (fun c_4 => ?_)
    · have h := if_at_t c_4 h
      refine lv_iconst (v := 2) hx hb dX2_namesOf_20 (by decide) ?_
      exact rtI hC hr hk hw (so_at h) rfl dX2_namesOf_21
    · have h := if_at_f c_4 h
      refine lv_iconst (v := 3) hx hb dX2_namesOf_16 (by decide) ?_
      refine lv_goto (tgt := 21) hx hb dX2_namesOf_17 (by decide) ?_
      exact rtI hC hr hk hw (so_at h) rfl dX2_namesOf_21
  · have h := if_at_t c_1 h
    refine lv_bipush (v := 6) hx hb dX2_namesOf_5 (by decide) ?_
    exact rtI hC hr hk hw (so_at h) rfl dX2_namesOf_7
def m_J6_bitCount_0f7a4 (fu : Nat) (x0 : Int32) : Option Int32 :=
  nm ((x0 - (((x0).toUInt32 >>> (((1 : Int32)).toUInt32 &&& Int32.toUInt32 31)).toInt32 &&& (1431655765 : Int32)))) (fun x0_1 => nm (((x0_1 &&& (858993459 : Int32)) + (((x0_1).toUInt32 >>> (((2 : Int32)).toUInt32 &&& Int32.toUInt32 31)).toInt32 &&& (858993459 : Int32)))) (fun x0_2 => nm (((x0_2 + ((x0_2).toUInt32 >>> (((4 : Int32)).toUInt32 &&& Int32.toUInt32 31)).toInt32) &&& (252645135 : Int32))) (fun x0_3 => nm ((x0_3 + ((x0_3).toUInt32 >>> (((8 : Int32)).toUInt32 &&& Int32.toUInt32 31)).toInt32)) (fun x0_4 => nm ((x0_4 + ((x0_4).toUInt32 >>> (((16 : Int32)).toUInt32 &&& Int32.toUInt32 31)).toInt32)) (fun x0_5 => some ((x0_5 &&& (63 : Int32))))))))
set_option maxRecDepth 100000 in
set_option maxHeartbeats 4000000 in
theorem k_J6_bitCount_0f7a4 (l : Launch) (D : va_G) (cy : ClassId) (w : ST → va_W) (S : ST) (fu : Nat) (x0 : Int32) (r : Int32) (h : m_J6_bitCount_0f7a4 fu x0 = some r) : CtI l yJ6_bitCount_0f7a4 cJ6_bitCount_0f7a4 1 (some .int) 0 [.int x0] D cy w S r S := by
  refine CtI_of (by decide) (Nat.le_of_ble_eq_true rfl) ?_
  intro p e s m args below meth c A ls hC hr hk hw hl
  have hC : Cx p s m c RJ6 cJ6_bitCount_0f7a4 1 args D cy := hC
  have hx := hC.1
  have hb := hC.2.1
  have hl : lv_has ls 1 [(0, .int x0)] := hl
  obtain ⟨H, eH⟩ : ∃ z : Heap, z = s.heap := ⟨_, rfl⟩
  obtain ⟨locs, elocs⟩ : ∃ z : List Loc, z = [] := ⟨_, rfl⟩
  have hw : InW D w A s.heap H locs S := by rw [eH, elocs]; exact hw
  suffices hsu : W p l e (rmN 0) s m args below meth c H locs 0 0 (QI below args s D w A r S) (F0 m 0 ls []) by rw [eH, elocs] at hsu; exact hsu
  unfold m_J6_bitCount_0f7a4 at h
  refine lv_iload_n hx hb dJ6_bitCount_0f7a4_0 rfl (lv_at hl 0 rfl) ?_
  refine lv_iload_n hx hb dJ6_bitCount_0f7a4_1 rfl (lv_at hl 0 rfl) ?_
  refine lv_iconst (v := 1) hx hb dJ6_bitCount_0f7a4_2 (by decide) ?_
  refine lv_iushr hx hb dJ6_bitCount_0f7a4_3 rfl ?_
  refine lv_ldcw hx hb hC.2.2.2.1 (hC.2.2.2.2.1 _ lc_RJ6_265) dJ6_bitCount_0f7a4_4 ?_
  refine lv_iand hx hb dJ6_bitCount_0f7a4_7 ?_
  refine lv_isub hx hb dJ6_bitCount_0f7a4_8 ?_
  refine lv_topi (fun x0_1 ex0_1 => ?_)
  have h := nm_at ex0_1 h
  refine lv_istore_n (lv' := [(0, .int x0_1)]) hx hb dJ6_bitCount_0f7a4_9 rfl hl (by decide) rfl (fun ls hl => ?_)
  refine lv_iload_n hx hb dJ6_bitCount_0f7a4_10 rfl (lv_at hl 0 rfl) ?_
  refine lv_ldcw hx hb hC.2.2.2.1 (hC.2.2.2.2.1 _ lc_RJ6_266) dJ6_bitCount_0f7a4_11 ?_
  refine lv_iand hx hb dJ6_bitCount_0f7a4_14 ?_
  refine lv_iload_n hx hb dJ6_bitCount_0f7a4_15 rfl (lv_at hl 0 rfl) ?_
  refine lv_iconst (v := 2) hx hb dJ6_bitCount_0f7a4_16 (by decide) ?_
  refine lv_iushr hx hb dJ6_bitCount_0f7a4_17 rfl ?_
  refine lv_ldcw hx hb hC.2.2.2.1 (hC.2.2.2.2.1 _ lc_RJ6_266) dJ6_bitCount_0f7a4_18 ?_
  refine lv_iand hx hb dJ6_bitCount_0f7a4_21 ?_
  refine lv_iadd hx hb dJ6_bitCount_0f7a4_22 ?_
  refine lv_topi (fun x0_2 ex0_2 => ?_)
  have h := nm_at ex0_2 h
  refine lv_istore_n (lv' := [(0, .int x0_2)]) hx hb dJ6_bitCount_0f7a4_23 rfl hl (by decide) rfl (fun ls hl => ?_)
  refine lv_iload_n hx hb dJ6_bitCount_0f7a4_24 rfl (lv_at hl 0 rfl) ?_
  refine lv_iload_n hx hb dJ6_bitCount_0f7a4_25 rfl (lv_at hl 0 rfl) ?_
  refine lv_iconst (v := 4) hx hb dJ6_bitCount_0f7a4_26 (by decide) ?_
  refine lv_iushr hx hb dJ6_bitCount_0f7a4_27 rfl ?_
  refine lv_iadd hx hb dJ6_bitCount_0f7a4_28 ?_
  refine lv_ldcw hx hb hC.2.2.2.1 (hC.2.2.2.2.1 _ lc_RJ6_267) dJ6_bitCount_0f7a4_29 ?_
  refine lv_iand hx hb dJ6_bitCount_0f7a4_32 ?_
  refine lv_topi (fun x0_3 ex0_3 => ?_)
  have h := nm_at ex0_3 h
  refine lv_istore_n (lv' := [(0, .int x0_3)]) hx hb dJ6_bitCount_0f7a4_33 rfl hl (by decide) rfl (fun ls hl => ?_)
  refine lv_iload_n hx hb dJ6_bitCount_0f7a4_34 rfl (lv_at hl 0 rfl) ?_
  refine lv_iload_n hx hb dJ6_bitCount_0f7a4_35 rfl (lv_at hl 0 rfl) ?_
  refine lv_bipush (v := 8) hx hb dJ6_bitCount_0f7a4_36 (by decide) ?_
  refine lv_iushr hx hb dJ6_bitCount_0f7a4_38 rfl ?_
  refine lv_iadd hx hb dJ6_bitCount_0f7a4_39 ?_
  refine lv_topi (fun x0_4 ex0_4 => ?_)
  have h := nm_at ex0_4 h
  refine lv_istore_n (lv' := [(0, .int x0_4)]) hx hb dJ6_bitCount_0f7a4_40 rfl hl (by decide) rfl (fun ls hl => ?_)
  refine lv_iload_n hx hb dJ6_bitCount_0f7a4_41 rfl (lv_at hl 0 rfl) ?_
  refine lv_iload_n hx hb dJ6_bitCount_0f7a4_42 rfl (lv_at hl 0 rfl) ?_
  refine lv_bipush (v := 16) hx hb dJ6_bitCount_0f7a4_43 (by decide) ?_
  refine lv_iushr hx hb dJ6_bitCount_0f7a4_45 rfl ?_
  refine lv_iadd hx hb dJ6_bitCount_0f7a4_46 ?_
  refine lv_topi (fun x0_5 ex0_5 => ?_)
  have h := nm_at ex0_5 h
  refine lv_istore_n (lv' := [(0, .int x0_5)]) hx hb dJ6_bitCount_0f7a4_47 rfl hl (by decide) rfl (fun ls hl => ?_)
  refine lv_iload_n hx hb dJ6_bitCount_0f7a4_48 rfl (lv_at hl 0 rfl) ?_
  refine lv_bipush (v := 63) hx hb dJ6_bitCount_0f7a4_49 (by decide) ?_
  refine lv_iand hx hb dJ6_bitCount_0f7a4_51 ?_
  exact rtI hC hr hk hw (so_at h) rfl dJ6_bitCount_0f7a4_52
def m_X5_hasLeaf (fu : Nat) (x0 : Int64) (x2 : Int32) (x3 : Int32) : Option Int32 :=
  (if (lg_cmp ((((x0).toUInt64 >>> ((((x2 * (8 : Int32)) + x3)).toInt64.toUInt64 &&& Int64.toUInt64 63)).toInt64 &&& (1 : Int64))) (0 : Int64)) = (0 : Int32) then some (0 : Int32) else some (1 : Int32))
set_option maxRecDepth 100000 in
set_option maxHeartbeats 4000000 in
theorem k_X5_hasLeaf (l : Launch) (D : va_G) (cy : ClassId) (w : ST → va_W) (S : ST) (fu : Nat) (x0 : Int64) (x2 : Int32) (x3 : Int32) (r : Int32) (h : m_X5_hasLeaf fu x0 x2 x3 = some r) : CtI l yX5_hasLeaf cX5_hasLeaf 4 (some .boolean) 0 [.long x0, .int x2, .int x3] D cy w S r S := by
  refine CtI_of (by decide) (Nat.le_of_ble_eq_true rfl) ?_
  intro p e s m args below meth c A ls hC hr hk hw hl
  have hC : Cx p s m c RX5 cX5_hasLeaf 4 args D cy := hC
  have hx := hC.1
  have hb := hC.2.1
  have hl : lv_has ls 4 [(0, .long x0), (2, .int x2), (3, .int x3)] := hl
  obtain ⟨H, eH⟩ : ∃ z : Heap, z = s.heap := ⟨_, rfl⟩
  obtain ⟨locs, elocs⟩ : ∃ z : List Loc, z = [] := ⟨_, rfl⟩
  have hw : InW D w A s.heap H locs S := by rw [eH, elocs]; exact hw
  suffices hsu : W p l e (rmN 0) s m args below meth c H locs 0 0 (QI below args s D w A r S) (F0 m 0 ls []) by rw [eH, elocs] at hsu; exact hsu
  unfold m_X5_hasLeaf at h
  refine lv_lload_n hx hb dX5_hasLeaf_0 rfl (lv_at hl 0 rfl) ?_
  refine lv_iload_n hx hb dX5_hasLeaf_1 rfl (lv_at hl 1 rfl) ?_
  refine lv_bipush (v := 8) hx hb dX5_hasLeaf_2 (by decide) ?_
  refine lv_imul hx hb dX5_hasLeaf_4 ?_
  refine lv_iload_n hx hb dX5_hasLeaf_5 rfl (lv_at hl 2 rfl) ?_
  refine lv_iadd hx hb dX5_hasLeaf_6 ?_
  refine lv_lushr hx hb dX5_hasLeaf_7 rfl ?_
  refine lv_lconst (v := 1) hx hb dX5_hasLeaf_8 (by decide) ?_
  refine lv_land hx hb dX5_hasLeaf_9 ?_
  refine lv_lconst (v := 0) hx hb dX5_hasLeaf_10 (by decide) ?_
  refine W.lcmp hx hb dX5_hasLeaf_11 ?_
  refine lv_if_eq (tgt := 19) hx hb dX5_hasLeaf_12 (by decide) (fun c_1 => ?_) (fun c_1 => ?_)
  · have h := if_at_t c_1 h
    refine lv_iconst (v := 0) hx hb dX5_hasLeaf_19 (by decide) ?_
    exact rtZ hC hr hk hw rfl (so_at h) rfl dX5_hasLeaf_20
  · have h := if_at_f c_1 h
    refine lv_iconst (v := 1) hx hb dX5_hasLeaf_15 (by decide) ?_
    refine lv_goto (tgt := 20) hx hb dX5_hasLeaf_16 (by decide) ?_
    exact rtZ hC hr hk hw rfl (so_at h) rfl dX5_hasLeaf_20
def m_X5_moved (fu : Nat) (x0 : Int64) (x2 : Int32) (x3 : Int32) (x4 : Int32) : Option Int64 :=
  bd (m_X5_turned fu x0 x2 x3) (fun v_2 => bd (m_X5_turned fu v_2 x2 x4) (fun v_4 => some v_4))
set_option maxRecDepth 100000 in
set_option maxHeartbeats 4000000 in
theorem k_X5_moved (l : Launch) (D : va_G) (cy : ClassId) (w : ST → va_W) (S : ST) (fu : Nat) (x0 : Int64) (x2 : Int32) (x3 : Int32) (x4 : Int32) (r : Int64) (h : m_X5_moved fu x0 x2 x3 x4 = some r) : CtL l yX5_moved cX5_moved 5 (some .long) 1 [.long x0, .int x2, .int x3, .int x4] D cy w S r S := by
  refine CtL_of (by decide) (Nat.le_of_ble_eq_true rfl) ?_
  intro p e s m args below meth c A ls hC hr hk hw hl
  have hC : Cx p s m c RX5 cX5_moved 5 args D cy := hC
  have hx := hC.1
  have hb := hC.2.1
  have hl : lv_has ls 5 [(0, .long x0), (2, .int x2), (3, .int x3), (4, .int x4)] := hl
  obtain ⟨H, eH⟩ : ∃ z : Heap, z = s.heap := ⟨_, rfl⟩
  obtain ⟨locs, elocs⟩ : ∃ z : List Loc, z = [] := ⟨_, rfl⟩
  have hw : InW D w A s.heap H locs S := by rw [eH, elocs]; exact hw
  suffices hsu : W p l e (rmN 1) s m args below meth c H locs 0 0 (QL below args s D w A r S) (F0 m 0 ls []) by rw [eH, elocs] at hsu; exact hsu
  unfold m_X5_moved at h
  refine lv_lload_n hx hb dX5_moved_0 rfl (lv_at hl 0 rfl) ?_
  refine lv_iload_n hx hb dX5_moved_1 rfl (lv_at hl 1 rfl) ?_
  refine lv_iload_n hx hb dX5_moved_2 rfl (lv_at hl 2 rfl) ?_
  obtain ⟨v_2, hc_1, h⟩ := bd_at h
  refine caSL (As := [.long x0, .int x2, .int x3]) (rest := []) hC hw hl.1 lm_RX5_29 li_RX5 lk_yX5_turned ls_yX5_turned 3 rfl hd_X5_turned (by decide) (by decide) (Nat.le_of_ble_eq_true rfl) dX5_moved_3 (k_X5_turned l D cy w S fu x0 x2 x3 _ hc_1) (fun H locs hw => ?_)
  refine lv_iload_n hx hb dX5_moved_6 rfl (lv_at hl 1 rfl) ?_
  refine lv_iload hx hb dX5_moved_7 (lv_at hl 3 rfl) ?_
  obtain ⟨v_4, hc_3, h⟩ := bd_at h
  refine caSL (As := [.long v_2, .int x2, .int x4]) (rest := []) hC hw hl.1 lm_RX5_29 li_RX5 lk_yX5_turned ls_yX5_turned 3 rfl hd_X5_turned (by decide) (by decide) (Nat.le_of_ble_eq_true rfl) dX5_moved_9 (k_X5_turned l D cy w S fu v_2 x2 x4 _ hc_3) (fun H locs hw => ?_)
  exact rtL hC hr hk hw (so_at h) rfl dX5_moved_12
def m_X2_mostKept (fu : Nat) (x0 : Int32) : Option Int32 :=
  (if x0 = (2 : Int32) then some (2 : Int32) else some (1 : Int32))
set_option maxRecDepth 100000 in
set_option maxHeartbeats 4000000 in
theorem k_X2_mostKept (l : Launch) (D : va_G) (cy : ClassId) (w : ST → va_W) (S : ST) (fu : Nat) (x0 : Int32) (r : Int32) (h : m_X2_mostKept fu x0 = some r) : CtI l yX2_mostKept cX2_mostKept 1 (some .int) 0 [.int x0] D cy w S r S := by
  refine CtI_of (by decide) (Nat.le_of_ble_eq_true rfl) ?_
  intro p e s m args below meth c A ls hC hr hk hw hl
  have hC : Cx p s m c RX2 cX2_mostKept 1 args D cy := hC
  have hx := hC.1
  have hb := hC.2.1
  have hl : lv_has ls 1 [(0, .int x0)] := hl
  obtain ⟨H, eH⟩ : ∃ z : Heap, z = s.heap := ⟨_, rfl⟩
  obtain ⟨locs, elocs⟩ : ∃ z : List Loc, z = [] := ⟨_, rfl⟩
  have hw : InW D w A s.heap H locs S := by rw [eH, elocs]; exact hw
  suffices hsu : W p l e (rmN 0) s m args below meth c H locs 0 0 (QI below args s D w A r S) (F0 m 0 ls []) by rw [eH, elocs] at hsu; exact hsu
  unfold m_X2_mostKept at h
  refine lv_iload_n hx hb dX2_mostKept_0 rfl (lv_at hl 0 rfl) ?_
  refine lv_iconst (v := 2) hx hb dX2_mostKept_1 (by decide) ?_
  refine lv_icmp_ne (tgt := 9) hx hb dX2_mostKept_2 (by decide) (fun c_1 => ?_) (fun c_1 => ?_)
  · have h := if_at_f c_1 h
    refine lv_iconst (v := 1) hx hb dX2_mostKept_9 (by decide) ?_
    exact rtI hC hr hk hw (so_at h) rfl dX2_mostKept_10
  · have h := if_at_t c_1 h
    refine lv_iconst (v := 2) hx hb dX2_mostKept_5 (by decide) ?_
    refine lv_goto (tgt := 10) hx hb dX2_mostKept_6 (by decide) ?_
    exact rtI hC hr hk hw (so_at h) rfl dX2_mostKept_10
def m_X2_lostWith (fu : Nat) (x0 : Int32) (x1 : Int32) : Option Int32 :=
  nm (((1 : Int32) <<< (x1 &&& (31 : Int32)))) (fun x2_1 => (if x0 = (4 : Int32) then (if x1 = (5 : Int32) then some ((x2_1 ||| (1 : Int32))) else nm ((x2_1 <<< ((1 : Int32) &&& (31 : Int32)))) (fun x3_4 => some ((x2_1 ||| x3_4)))) else some x2_1))
set_option maxRecDepth 100000 in
set_option maxHeartbeats 4000000 in
theorem k_X2_lostWith (l : Launch) (D : va_G) (cy : ClassId) (w : ST → va_W) (S : ST) (fu : Nat) (x0 : Int32) (x1 : Int32) (r : Int32) (h : m_X2_lostWith fu x0 x1 = some r) : CtI l yX2_lostWith cX2_lostWith 4 (some .int) 0 [.int x0, .int x1] D cy w S r S := by
  refine CtI_of (by decide) (Nat.le_of_ble_eq_true rfl) ?_
  intro p e s m args below meth c A ls hC hr hk hw hl
  have hC : Cx p s m c RX2 cX2_lostWith 4 args D cy := hC
  have hx := hC.1
  have hb := hC.2.1
  have hl : lv_has ls 4 [(0, .int x0), (1, .int x1)] := hl
  obtain ⟨H, eH⟩ : ∃ z : Heap, z = s.heap := ⟨_, rfl⟩
  obtain ⟨locs, elocs⟩ : ∃ z : List Loc, z = [] := ⟨_, rfl⟩
  have hw : InW D w A s.heap H locs S := by rw [eH, elocs]; exact hw
  suffices hsu : W p l e (rmN 0) s m args below meth c H locs 0 0 (QI below args s D w A r S) (F0 m 0 ls []) by rw [eH, elocs] at hsu; exact hsu
  unfold m_X2_lostWith at h
  refine lv_iconst (v := 1) hx hb dX2_lostWith_0 (by decide) ?_
  refine lv_iload_n hx hb dX2_lostWith_1 rfl (lv_at hl 1 rfl) ?_
  refine lv_ishl hx hb dX2_lostWith_2 ?_
  refine lv_topi (fun x2_1 ex2_1 => ?_)
  have h := nm_at ex2_1 h
  refine lv_istore_n (lv' := [(2, .int x2_1), (0, .int x0), (1, .int x1)]) hx hb dX2_lostWith_3 rfl hl (by decide) rfl (fun ls hl => ?_)
  refine lv_iload_n hx hb dX2_lostWith_4 rfl (lv_at hl 1 rfl) ?_
  refine lv_iconst (v := 4) hx hb dX2_lostWith_5 (by decide) ?_
  refine lv_icmp_eq (tgt := 11) hx hb dX2_lostWith_6 (by decide) (fun c_2 => ?_) (fun c_2 => ?_)
  · have h := if_at_t c_2 h
    refine lv_iload_n hx hb dX2_lostWith_11 rfl (lv_at hl 2 rfl) ?_
    refine lv_iconst (v := 5) hx hb dX2_lostWith_12 (by decide) ?_
    refine lv_icmp_ne (tgt := 20) hx hb dX2_lostWith_13 (by decide) (fun c_3 => ?_) (fun c_3 => ?_)
    · have h := if_at_f c_3 h
      refine lv_iload_n hx hb dX2_lostWith_20 rfl (lv_at hl 0 rfl) ?_
      refine lv_iconst (v := 1) hx hb dX2_lostWith_21 (by decide) ?_
      refine lv_ishl hx hb dX2_lostWith_22 ?_
      refine lv_topi (fun x3_4 ex3_4 => ?_)
      have h := nm_at ex3_4 h
      refine lv_istore_n (lv' := [(3, .int x3_4), (2, .int x2_1), (0, .int x0), (1, .int x1)]) hx hb dX2_lostWith_23 rfl hl (by decide) rfl (fun ls hl => ?_)
      refine lv_iload_n hx hb dX2_lostWith_24 rfl (lv_at hl 1 rfl) ?_
      refine lv_iload_n hx hb dX2_lostWith_25 rfl (lv_at hl 0 rfl) ?_
      refine lv_ior hx hb dX2_lostWith_26 ?_
      exact rtI hC hr hk hw (so_at h) rfl dX2_lostWith_27
    · have h := if_at_t c_3 h
      refine lv_iconst (v := 1) hx hb dX2_lostWith_16 (by decide) ?_
      refine lv_goto (tgt := 23) hx hb dX2_lostWith_17 (by decide) ?_
      refine lv_istore_n (lv' := [(3, .int (1 : Int32)), (2, .int x2_1), (0, .int x0), (1, .int x1)]) hx hb dX2_lostWith_23 rfl hl (by decide) rfl (fun ls hl => ?_)
      refine lv_iload_n hx hb dX2_lostWith_24 rfl (lv_at hl 1 rfl) ?_
      refine lv_iload_n hx hb dX2_lostWith_25 rfl (lv_at hl 0 rfl) ?_
      refine lv_ior hx hb dX2_lostWith_26 ?_
      exact rtI hC hr hk hw (so_at h) rfl dX2_lostWith_27
  · have h := if_at_f c_2 h
    refine lv_iload_n hx hb dX2_lostWith_9 rfl (lv_at hl 0 rfl) ?_
    exact rtI hC hr hk hw (so_at h) rfl dX2_lostWith_10
