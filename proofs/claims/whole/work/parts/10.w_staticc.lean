def m_X5_without (fu : Nat) (x0 : Int64) (x2 : Int32) (x3 : Int32) : Option Int64 :=
  some ((x0 &&& (((x3).toInt64 <<< (((x2 * (8 : Int32))).toInt64 &&& (63 : Int64))) ^^^ (-1 : Int64))))
set_option maxRecDepth 100000 in
set_option maxHeartbeats 4000000 in
theorem k_X5_without (l : Launch) (D : va_G) (cy : ClassId) (w : ST → va_W) (S : ST) (fu : Nat) (x0 : Int64) (x2 : Int32) (x3 : Int32) (r : Int64) (h : m_X5_without fu x0 x2 x3 = some r) : CtL l yX5_without cX5_without 4 (some .long) 0 [.long x0, .int x2, .int x3] D cy w S r S := by
  refine CtL_of (by decide) (Nat.le_of_ble_eq_true rfl) ?_
  intro p e s m args below meth c A ls hC hr hk hw hl
  have hC : Cx p s m c RX5 cX5_without 4 args D cy := hC
  have hx := hC.1
  have hb := hC.2.1
  have hl : lv_has ls 4 [(0, .long x0), (2, .int x2), (3, .int x3)] := hl
  obtain ⟨H, eH⟩ : ∃ z : Heap, z = s.heap := ⟨_, rfl⟩
  obtain ⟨locs, elocs⟩ : ∃ z : List Loc, z = [] := ⟨_, rfl⟩
  have hw : InW D w A s.heap H locs S := by rw [eH, elocs]; exact hw
  suffices hsu : W p l e (rmN 0) s m args below meth c H locs 0 0 (QL below args s D w A r S) (F0 m 0 ls []) by rw [eH, elocs] at hsu; exact hsu
  unfold m_X5_without at h
  refine lv_lload_n hx hb dX5_without_0 rfl (lv_at hl 0 rfl) ?_
  refine lv_iload_n hx hb dX5_without_1 rfl (lv_at hl 2 rfl) ?_
  refine lv_i2l hx hb dX5_without_2 rfl ?_
  refine lv_iload_n hx hb dX5_without_3 rfl (lv_at hl 1 rfl) ?_
  refine lv_bipush (v := 8) hx hb dX5_without_4 (by decide) ?_
  refine lv_imul hx hb dX5_without_6 ?_
  refine lv_lshl hx hb dX5_without_7 rfl ?_
  refine lv_ldc2 hx hb hC.2.2.2.1 (hC.2.2.2.2.1 _ lc_RX5_33) dX5_without_8 ?_
  refine lv_lxor hx hb dX5_without_11 ?_
  refine lv_land hx hb dX5_without_12 ?_
  exact rtL hC hr hk hw (so_at h) rfl dX5_without_13
def m_X5_keptOnceMore (fu : Nat) (x0 : Int64) (x2 : Int32) : Option Int64 :=
  some ((x0 + ((64 : Int64) <<< (((x2 * (8 : Int32))).toInt64 &&& (63 : Int64)))))
set_option maxRecDepth 100000 in
set_option maxHeartbeats 4000000 in
theorem k_X5_keptOnceMore (l : Launch) (D : va_G) (cy : ClassId) (w : ST → va_W) (S : ST) (fu : Nat) (x0 : Int64) (x2 : Int32) (r : Int64) (h : m_X5_keptOnceMore fu x0 x2 = some r) : CtL l yX5_keptOnceMore cX5_keptOnceMore 3 (some .long) 0 [.long x0, .int x2] D cy w S r S := by
  refine CtL_of (by decide) (Nat.le_of_ble_eq_true rfl) ?_
  intro p e s m args below meth c A ls hC hr hk hw hl
  have hC : Cx p s m c RX5 cX5_keptOnceMore 3 args D cy := hC
  have hx := hC.1
  have hb := hC.2.1
  have hl : lv_has ls 3 [(0, .long x0), (2, .int x2)] := hl
  obtain ⟨H, eH⟩ : ∃ z : Heap, z = s.heap := ⟨_, rfl⟩
  obtain ⟨locs, elocs⟩ : ∃ z : List Loc, z = [] := ⟨_, rfl⟩
  have hw : InW D w A s.heap H locs S := by rw [eH, elocs]; exact hw
  suffices hsu : W p l e (rmN 0) s m args below meth c H locs 0 0 (QL below args s D w A r S) (F0 m 0 ls []) by rw [eH, elocs] at hsu; exact hsu
  unfold m_X5_keptOnceMore at h
  refine lv_lload_n hx hb dX5_keptOnceMore_0 rfl (lv_at hl 0 rfl) ?_
  refine lv_ldc2 hx hb hC.2.2.2.1 (hC.2.2.2.2.1 _ lc_RX5_35) dX5_keptOnceMore_1 ?_
  refine lv_iload_n hx hb dX5_keptOnceMore_4 rfl (lv_at hl 1 rfl) ?_
  refine lv_bipush (v := 8) hx hb dX5_keptOnceMore_5 (by decide) ?_
  refine lv_imul hx hb dX5_keptOnceMore_7 ?_
  refine lv_lshl hx hb dX5_keptOnceMore_8 rfl ?_
  refine lv_ladd hx hb dX5_keptOnceMore_9 ?_
  exact rtL hC hr hk hw (so_at h) rfl dX5_keptOnceMore_10
def m_X5_allLeaves (fu : Nat) (x0 : Int64) : Option Int32 :=
  bd (m_J13_bitCount_95d88 fu ((x0 &&& (271644049215 : Int64)))) (fun v_2 => some v_2)
set_option maxRecDepth 100000 in
set_option maxHeartbeats 4000000 in
theorem k_X5_allLeaves (l : Launch) (D : va_G) (cy : ClassId) (w : ST → va_W) (S : ST) (fu : Nat) (x0 : Int64) (r : Int32) (h : m_X5_allLeaves fu x0 = some r) : CtI l yX5_allLeaves cX5_allLeaves 2 (some .int) 1 [.long x0] D cy w S r S := by
  refine CtI_of (by decide) (Nat.le_of_ble_eq_true rfl) ?_
  intro p e s m args below meth c A ls hC hr hk hw hl
  have hC : Cx p s m c RX5 cX5_allLeaves 2 args D cy := hC
  have hx := hC.1
  have hb := hC.2.1
  have hl : lv_has ls 2 [(0, .long x0)] := hl
  obtain ⟨H, eH⟩ : ∃ z : Heap, z = s.heap := ⟨_, rfl⟩
  obtain ⟨locs, elocs⟩ : ∃ z : List Loc, z = [] := ⟨_, rfl⟩
  have hw : InW D w A s.heap H locs S := by rw [eH, elocs]; exact hw
  suffices hsu : W p l e (rmN 1) s m args below meth c H locs 0 0 (QI below args s D w A r S) (F0 m 0 ls []) by rw [eH, elocs] at hsu; exact hsu
  unfold m_X5_allLeaves at h
  refine lv_lload_n hx hb dX5_allLeaves_0 rfl (lv_at hl 0 rfl) ?_
  refine lv_ldc2 hx hb hC.2.2.2.1 (hC.2.2.2.2.1 _ lc_RX5_27) dX5_allLeaves_1 ?_
  refine lv_land hx hb dX5_allLeaves_4 ?_
  obtain ⟨v_2, hc_1, h⟩ := bd_at h
  refine caSI (As := [.long (x0 &&& (271644049215 : Int64))]) (rest := []) hC hw hl.1 lm_RX5_21 li_RJ13 lk_yJ13_bitCount_95d88 ls_yJ13_bitCount_95d88 1 rfl hd_J13_bitCount_95d88 (by decide) (by decide) (Nat.le_of_ble_eq_true rfl) dX5_allLeaves_5 (k_J13_bitCount_95d88 l D cy w S fu ((x0 &&& (271644049215 : Int64))) _ hc_1) (fun H locs hw => ?_)
  exact rtI hC hr hk hw (so_at h) rfl dX5_allLeaves_8
def m_X6_power_L4 (fu : Nat) (x0 : Int32) (x1 : Int32) (ag_3 : Int32 → Int32 → Option Int32) (x2_1 : Int32) (x3_2 : Int32) : Option Int32 :=
  (if x1 ≤ x3_2 then some x2_1 else nm ((x2_1 * x0)) (fun x2_5 => nm (x3_2 + (1 : Int32)) (fun x3_6 => ag_3 x2_5 x3_6)))
def m_X6_power (fu : Nat) (x0 : Int32) (x1 : Int32) : Option Int32 :=
  lq2 (m_X6_power_L4 fu x0 x1) fu (1 : Int32) (0 : Int32)
set_option maxRecDepth 100000 in
set_option maxHeartbeats 4000000 in
theorem k_X6_power (l : Launch) (D : va_G) (cy : ClassId) (w : ST → va_W) (S : ST) (fu : Nat) (x0 : Int32) (x1 : Int32) (r : Int32) (h : m_X6_power fu x0 x1 = some r) : CtI l yX6_power cX6_power 4 (some .int) 0 [.int x0, .int x1] D cy w S r S := by
  refine CtI_of (by decide) (Nat.le_of_ble_eq_true rfl) ?_
  intro p e s m args below meth c A ls hC hr hk hw hl
  have hC : Cx p s m c RX6 cX6_power 4 args D cy := hC
  have hx := hC.1
  have hb := hC.2.1
  have hl : lv_has ls 4 [(0, .int x0), (1, .int x1)] := hl
  obtain ⟨H, eH⟩ : ∃ z : Heap, z = s.heap := ⟨_, rfl⟩
  obtain ⟨locs, elocs⟩ : ∃ z : List Loc, z = [] := ⟨_, rfl⟩
  have hw : InW D w A s.heap H locs S := by rw [eH, elocs]; exact hw
  suffices hsu : W p l e (rmN 0) s m args below meth c H locs 0 0 (QI below args s D w A r S) (F0 m 0 ls []) by rw [eH, elocs] at hsu; exact hsu
  unfold m_X6_power at h
  refine lv_iconst (v := 1) hx hb dX6_power_0 (by decide) ?_
  refine lv_istore_n (lv' := [(2, .int (1 : Int32)), (0, .int x0), (1, .int x1)]) hx hb dX6_power_1 rfl hl (by decide) rfl (fun ls hl => ?_)
  refine lv_iconst (v := 0) hx hb dX6_power_2 (by decide) ?_
  refine lv_istore_n (lv' := [(3, .int (0 : Int32)), (2, .int (1 : Int32)), (0, .int x0), (1, .int x1)]) hx hb dX6_power_3 rfl hl (by decide) rfl (fun ls hl => ?_)
  refine lq2_ok (fun (x2_1 : Int32) (x3_2 : Int32) => ∀ (H : Heap) (locs : List Loc) (ls : Array Slot), InW D w A s.heap H locs S → lv_has ls 4 [(0, .int x0), (1, .int x1), (2, .int x2_1), (3, .int x3_2)] → W p l e (rmN 0) s m args below meth c H locs 0 0 (QI below args s D w A r S) (F0 m 4 ls [])) ?_ fu (1 : Int32) (0 : Int32) h H locs ls hw (lv_sub hl [2, 3, 1, 0] rfl)
  intro ag_3 hag_3 x2_1 x3_2 h H locs ls hw hl
  unfold m_X6_power_L4 at h
  refine lv_iload_n hx hb dX6_power_4 rfl (lv_at hl 3 rfl) ?_
  refine lv_iload_n hx hb dX6_power_5 rfl (lv_at hl 1 rfl) ?_
  refine lv_icmp_ge (tgt := 19) hx hb dX6_power_6 (by decide) (fun c_4 => ?_) (fun c_4 => ?_)
  · have h := if_at_t c_4 h
    refine lv_iload_n hx hb dX6_power_19 rfl (lv_at hl 2 rfl) ?_
    exact rtI hC hr hk hw (so_at h) rfl dX6_power_20
  · have h := if_at_f c_4 h
    refine lv_iload_n hx hb dX6_power_9 rfl (lv_at hl 2 rfl) ?_
    refine lv_iload_n hx hb dX6_power_10 rfl (lv_at hl 0 rfl) ?_
    refine lv_imul hx hb dX6_power_11 ?_
    refine lv_topi (fun x2_5 ex2_5 => ?_)
    have h := nm_at ex2_5 h
    refine lv_istore_n (lv' := [(2, .int x2_5), (0, .int x0), (1, .int x1), (3, .int x3_2)]) hx hb dX6_power_12 rfl hl (by decide) rfl (fun ls hl => ?_)
    obtain ⟨x3_6, ex3_6⟩ : ∃ z : Int32, z = x3_2 + (1 : Int32) := ⟨_, rfl⟩
    have h := nm_at ex3_6 h
    refine lv_iinc (v := x3_6) (lv' := [(3, .int x3_6), (2, .int x2_5), (0, .int x0), (1, .int x1)]) hx hb dX6_power_13 hl (k := 3) rfl (by rw [ex3_6]; rfl) (by decide) rfl (fun ls hl => ?_)
    refine lv_goto (tgt := 4) hx hb dX6_power_16 (by decide) ?_
    exact hag_3 x2_5 x3_6 h H locs ls hw (lv_sub hl [2, 3, 1, 0] rfl)
def m_X6_inLowestTerms_L13 (fu : Nat) (x1 : Int32) (x2 : Int32) (j_5 : Int32 → Int32 → Option Int32) (ag_10 : Int32 → Int32 → Int32 → Option Int32) (x3_7 : Int32) (x4_8 : Int32) (x5_9 : Int32) : Option Int32 :=
  (if x1 ≤ x5_9 then j_5 x3_7 x4_8 else jn2 (fun (x3_12 : Int32) (x4_13 : Int32) => jn2 (fun (x3_15 : Int32) (x4_16 : Int32) => nm (x5_9 + (1 : Int32)) (fun x5_18 => ag_10 x3_15 x4_16 x5_18)) (fun j_17 => (if (x3_12 - x3_12 / (5 : Int32) * (5 : Int32)) = (0 : Int32) then (if (x4_13 - x4_13 / (5 : Int32) * (5 : Int32)) = (0 : Int32) then nm ((x3_12 / (5 : Int32))) (fun x3_21 => nm ((x4_13 / (5 : Int32))) (fun x4_22 => j_17 x3_21 x4_22)) else j_17 x3_12 x4_13) else j_17 x3_12 x4_13))) (fun j_14 => (if (x3_7 - x3_7 / (2 : Int32) * (2 : Int32)) = (0 : Int32) then (if (x4_8 - x4_8 / (2 : Int32) * (2 : Int32)) = (0 : Int32) then nm ((x3_7 / (2 : Int32))) (fun x3_25 => nm ((x4_8 / (2 : Int32))) (fun x4_26 => j_14 x3_25 x4_26)) else j_14 x3_7 x4_8) else j_14 x3_7 x4_8)))
def m_X6_inLowestTerms (fu : Nat) (x0 : Int32) (x1 : Int32) (x2 : Int32) : Option Int32 :=
  bd (m_X6_power fu (10 : Int32) x1) (fun v_2 => jn2 (fun (x3_3 : Int32) (x4_4 : Int32) => (if x2 = (0 : Int32) then some x3_3 else some x4_4)) (fun j_5 => lq3 (m_X6_inLowestTerms_L13 fu x1 x2 j_5) fu x0 v_2 (0 : Int32)))
set_option maxRecDepth 100000 in
set_option maxHeartbeats 4000000 in
theorem k_X6_inLowestTerms (l : Launch) (D : va_G) (cy : ClassId) (w : ST → va_W) (S : ST) (fu : Nat) (x0 : Int32) (x1 : Int32) (x2 : Int32) (r : Int32) (h : m_X6_inLowestTerms fu x0 x1 x2 = some r) : CtI l yX6_inLowestTerms cX6_inLowestTerms 6 (some .int) 1 [.int x0, .int x1, .int x2] D cy w S r S := by
  refine CtI_of (by decide) (Nat.le_of_ble_eq_true rfl) ?_
  intro p e s m args below meth c A ls hC hr hk hw hl
  have hC : Cx p s m c RX6 cX6_inLowestTerms 6 args D cy := hC
  have hx := hC.1
  have hb := hC.2.1
  have hl : lv_has ls 6 [(0, .int x0), (1, .int x1), (2, .int x2)] := hl
  obtain ⟨H, eH⟩ : ∃ z : Heap, z = s.heap := ⟨_, rfl⟩
  obtain ⟨locs, elocs⟩ : ∃ z : List Loc, z = [] := ⟨_, rfl⟩
  have hw : InW D w A s.heap H locs S := by rw [eH, elocs]; exact hw
  suffices hsu : W p l e (rmN 1) s m args below meth c H locs 0 0 (QI below args s D w A r S) (F0 m 0 ls []) by rw [eH, elocs] at hsu; exact hsu
  unfold m_X6_inLowestTerms at h
  refine lv_iload_n hx hb dX6_inLowestTerms_0 rfl (lv_at hl 0 rfl) ?_
  refine lv_istore_n (lv' := [(3, .int x0), (0, .int x0), (1, .int x1), (2, .int x2)]) hx hb dX6_inLowestTerms_1 rfl hl (by decide) rfl (fun ls hl => ?_)
  refine lv_bipush (v := 10) hx hb dX6_inLowestTerms_2 (by decide) ?_
  refine lv_iload_n hx hb dX6_inLowestTerms_4 rfl (lv_at hl 2 rfl) ?_
  obtain ⟨v_2, hc_1, h⟩ := bd_at h
  refine caSI (As := [.int (10 : Int32), .int x1]) (rest := []) hC hw hl.1 lm_RX6_273 li_RX6 lk_yX6_power ls_yX6_power 2 rfl hd_X6_power (by decide) (by decide) (Nat.le_of_ble_eq_true rfl) dX6_inLowestTerms_5 (k_X6_power l D cy w S fu (10 : Int32) x1 _ hc_1) (fun H locs hw => ?_)
  refine lv_istore (lv' := [(4, .int v_2), (3, .int x0), (0, .int x0), (1, .int x1), (2, .int x2)]) hx hb dX6_inLowestTerms_8 hl (by decide) rfl (fun ls hl => ?_)
  refine lv_iconst (v := 0) hx hb dX6_inLowestTerms_10 (by decide) ?_
  refine lv_istore (lv' := [(5, .int (0 : Int32)), (4, .int v_2), (3, .int x0), (0, .int x0), (1, .int x1), (2, .int x2)]) hx hb dX6_inLowestTerms_11 hl (by decide) rfl (fun ls hl => ?_)
  refine jn2_ok (fun (x3_3 : Int32) (x4_4 : Int32) => ∀ (H : Heap) (locs : List Loc) (ls : Array Slot), InW D w A s.heap H locs S → lv_has ls 6 [(2, .int x2), (3, .int x3_3), (4, .int x4_4)] → W p l e (rmN 1) s m args below meth c H locs 0 0 (QI below args s D w A r S) (F0 m 71 ls [])) ?_ ?_ h
  · intro x3_3 x4_4 h H locs ls hw hl
    refine lv_iload_n hx hb dX6_inLowestTerms_71 rfl (lv_at hl 0 rfl) ?_
    refine lv_if_ne (tgt := 79) hx hb dX6_inLowestTerms_72 (by decide) (fun c_6 => ?_) (fun c_6 => ?_)
    · have h := if_at_f c_6 h
      refine lv_iload hx hb dX6_inLowestTerms_79 (lv_at hl 2 rfl) ?_
      exact rtI hC hr hk hw (so_at h) rfl dX6_inLowestTerms_81
    · have h := if_at_t c_6 h
      refine lv_iload_n hx hb dX6_inLowestTerms_75 rfl (lv_at hl 1 rfl) ?_
      refine lv_goto (tgt := 81) hx hb dX6_inLowestTerms_76 (by decide) ?_
      exact rtI hC hr hk hw (so_at h) rfl dX6_inLowestTerms_81
  · intro j_5 hj_5 h
    refine lq3_ok (fun (x3_7 : Int32) (x4_8 : Int32) (x5_9 : Int32) => ∀ (H : Heap) (locs : List Loc) (ls : Array Slot), InW D w A s.heap H locs S → lv_has ls 6 [(1, .int x1), (2, .int x2), (3, .int x3_7), (4, .int x4_8), (5, .int x5_9)] → W p l e (rmN 1) s m args below meth c H locs 0 0 (QI below args s D w A r S) (F0 m 13 ls [])) ?_ fu x0 v_2 (0 : Int32) h H locs ls hw (lv_sub hl [4, 5, 2, 1, 0] rfl)
    intro ag_10 hag_10 x3_7 x4_8 x5_9 h H locs ls hw hl
    unfold m_X6_inLowestTerms_L13 at h
    refine lv_iload hx hb dX6_inLowestTerms_13 (lv_at hl 4 rfl) ?_
    refine lv_iload_n hx hb dX6_inLowestTerms_15 rfl (lv_at hl 0 rfl) ?_
    refine lv_icmp_ge (tgt := 71) hx hb dX6_inLowestTerms_16 (by decide) (fun c_11 => ?_) (fun c_11 => ?_)
    · have h := if_at_t c_11 h
      exact hj_5 x3_7 x4_8 h H locs ls hw (lv_sub hl [1, 2, 3] rfl)
    · have h := if_at_f c_11 h
      refine lv_iload_n hx hb dX6_inLowestTerms_19 rfl (lv_at hl 2 rfl) ?_
      refine lv_iconst (v := 2) hx hb dX6_inLowestTerms_20 (by decide) ?_
      refine lv_irem hx hb dX6_inLowestTerms_21 (by decide) ?_
      refine jn2_ok (fun (x3_12 : Int32) (x4_13 : Int32) => ∀ (H : Heap) (locs : List Loc) (ls : Array Slot), InW D w A s.heap H locs S → lv_has ls 6 [(1, .int x1), (2, .int x2), (3, .int x3_12), (4, .int x4_13), (5, .int x5_9)] → W p l e (rmN 1) s m args below meth c H locs 0 0 (QI below args s D w A r S) (F0 m 42 ls [])) ?_ ?_ h
      · intro x3_12 x4_13 h H locs ls hw hl
        refine lv_iload_n hx hb dX6_inLowestTerms_42 rfl (lv_at hl 2 rfl) ?_
        refine lv_iconst (v := 5) hx hb dX6_inLowestTerms_43 (by decide) ?_
        refine lv_irem hx hb dX6_inLowestTerms_44 (by decide) ?_
        refine jn2_ok (fun (x3_15 : Int32) (x4_16 : Int32) => ∀ (H : Heap) (locs : List Loc) (ls : Array Slot), InW D w A s.heap H locs S → lv_has ls 6 [(1, .int x1), (2, .int x2), (3, .int x3_15), (4, .int x4_16), (5, .int x5_9)] → W p l e (rmN 1) s m args below meth c H locs 0 0 (QI below args s D w A r S) (F0 m 65 ls [])) ?_ ?_ h
        · intro x3_15 x4_16 h H locs ls hw hl
          obtain ⟨x5_18, ex5_18⟩ : ∃ z : Int32, z = x5_9 + (1 : Int32) := ⟨_, rfl⟩
          have h := nm_at ex5_18 h
          refine lv_iinc (v := x5_18) (lv' := [(5, .int x5_18), (1, .int x1), (2, .int x2), (3, .int x3_15), (4, .int x4_16)]) hx hb dX6_inLowestTerms_65 hl (k := 4) rfl (by rw [ex5_18]; rfl) (by decide) rfl (fun ls hl => ?_)
          refine lv_goto (tgt := 13) hx hb dX6_inLowestTerms_68 (by decide) ?_
          exact hag_10 x3_15 x4_16 x5_18 h H locs ls hw (lv_sub hl [1, 2, 3, 4, 0] rfl)
        · intro j_17 hj_17 h
          refine lv_if_ne (tgt := 65) hx hb dX6_inLowestTerms_45 (by decide) (fun c_19 => ?_) (fun c_19 => ?_)
          · have h := if_at_f c_19 h
            exact hj_17 x3_12 x4_13 h H locs ls hw (lv_sub hl [0, 1, 2, 3, 4] rfl)
          · have h := if_at_t c_19 h
            refine lv_iload hx hb dX6_inLowestTerms_48 (lv_at hl 3 rfl) ?_
            refine lv_iconst (v := 5) hx hb dX6_inLowestTerms_50 (by decide) ?_
            refine lv_irem hx hb dX6_inLowestTerms_51 (by decide) ?_
            refine lv_if_ne (tgt := 65) hx hb dX6_inLowestTerms_52 (by decide) (fun c_20 => ?_) (fun c_20 => ?_)
            · have h := if_at_f c_20 h
              exact hj_17 x3_12 x4_13 h H locs ls hw (lv_sub hl [0, 1, 2, 3, 4] rfl)
            · have h := if_at_t c_20 h
              refine lv_iload_n hx hb dX6_inLowestTerms_55 rfl (lv_at hl 2 rfl) ?_
              refine lv_iconst (v := 5) hx hb dX6_inLowestTerms_56 (by decide) ?_
              refine lv_idiv hx hb dX6_inLowestTerms_57 (by decide) ?_
              refine lv_topi (fun x3_21 ex3_21 => ?_)
              have h := nm_at ex3_21 h
              refine lv_istore_n (lv' := [(3, .int x3_21), (1, .int x1), (2, .int x2), (4, .int x4_13), (5, .int x5_9)]) hx hb dX6_inLowestTerms_58 rfl hl (by decide) rfl (fun ls hl => ?_)
              refine lv_iload hx hb dX6_inLowestTerms_59 (lv_at hl 3 rfl) ?_
              refine lv_iconst (v := 5) hx hb dX6_inLowestTerms_61 (by decide) ?_
              refine lv_idiv hx hb dX6_inLowestTerms_62 (by decide) ?_
              refine lv_topi (fun x4_22 ex4_22 => ?_)
              have h := nm_at ex4_22 h
              refine lv_istore (lv' := [(4, .int x4_22), (3, .int x3_21), (1, .int x1), (2, .int x2), (5, .int x5_9)]) hx hb dX6_inLowestTerms_63 hl (by decide) rfl (fun ls hl => ?_)
              exact hj_17 x3_21 x4_22 h H locs ls hw (lv_sub hl [2, 3, 1, 0, 4] rfl)
      · intro j_14 hj_14 h
        refine lv_if_ne (tgt := 42) hx hb dX6_inLowestTerms_22 (by decide) (fun c_23 => ?_) (fun c_23 => ?_)
        · have h := if_at_f c_23 h
          exact hj_14 x3_7 x4_8 h H locs ls hw (lv_sub hl [0, 1, 2, 3, 4] rfl)
        · have h := if_at_t c_23 h
          refine lv_iload hx hb dX6_inLowestTerms_25 (lv_at hl 3 rfl) ?_
          refine lv_iconst (v := 2) hx hb dX6_inLowestTerms_27 (by decide) ?_
          refine lv_irem hx hb dX6_inLowestTerms_28 (by decide) ?_
          refine lv_if_ne (tgt := 42) hx hb dX6_inLowestTerms_29 (by decide) (fun c_24 => ?_) (fun c_24 => ?_)
          · have h := if_at_f c_24 h
            exact hj_14 x3_7 x4_8 h H locs ls hw (lv_sub hl [0, 1, 2, 3, 4] rfl)
          · have h := if_at_t c_24 h
            refine lv_iload_n hx hb dX6_inLowestTerms_32 rfl (lv_at hl 2 rfl) ?_
            refine lv_iconst (v := 2) hx hb dX6_inLowestTerms_33 (by decide) ?_
            refine lv_idiv hx hb dX6_inLowestTerms_34 (by decide) ?_
            refine lv_topi (fun x3_25 ex3_25 => ?_)
            have h := nm_at ex3_25 h
            refine lv_istore_n (lv' := [(3, .int x3_25), (1, .int x1), (2, .int x2), (4, .int x4_8), (5, .int x5_9)]) hx hb dX6_inLowestTerms_35 rfl hl (by decide) rfl (fun ls hl => ?_)
            refine lv_iload hx hb dX6_inLowestTerms_36 (lv_at hl 3 rfl) ?_
            refine lv_iconst (v := 2) hx hb dX6_inLowestTerms_38 (by decide) ?_
            refine lv_idiv hx hb dX6_inLowestTerms_39 (by decide) ?_
            refine lv_topi (fun x4_26 ex4_26 => ?_)
            have h := nm_at ex4_26 h
            refine lv_istore (lv' := [(4, .int x4_26), (3, .int x3_25), (1, .int x1), (2, .int x2), (5, .int x5_9)]) hx hb dX6_inLowestTerms_40 hl (by decide) rfl (fun ls hl => ?_)
            exact hj_14 x3_25 x4_26 h H locs ls hw (lv_sub hl [2, 3, 1, 0, 4] rfl)
def m_X5_living_L4 (fu : Nat) (x0 : Int64) (ag_3 : Int32 → Int32 → Option Int32) (x2_1 : Int32) (x3_2 : Int32) : Option Int32 :=
  (if (5 : Int32) ≤ x3_2 then some x2_1 else bd (m_X5_lives fu x0 x3_2) (fun v_6 => jn1 (fun (x2_7 : Int32) => nm (x3_2 + (1 : Int32)) (fun x3_9 => ag_3 x2_7 x3_9)) (fun j_8 => (if v_6 = (0 : Int32) then j_8 x2_1 else nm ((x2_1 ||| ((1 : Int32) <<< (x3_2 &&& (31 : Int32))))) (fun x2_11 => j_8 x2_11)))))
def m_X5_living (fu : Nat) (x0 : Int64) : Option Int32 :=
  lq2 (m_X5_living_L4 fu x0) fu (0 : Int32) (0 : Int32)
set_option maxRecDepth 100000 in
set_option maxHeartbeats 4000000 in
theorem k_X5_living (l : Launch) (D : va_G) (cy : ClassId) (w : ST → va_W) (S : ST) (fu : Nat) (x0 : Int64) (r : Int32) (h : m_X5_living fu x0 = some r) : CtI l yX5_living cX5_living 4 (some .int) 2 [.long x0] D cy w S r S := by
  refine CtI_of (by decide) (Nat.le_of_ble_eq_true rfl) ?_
  intro p e s m args below meth c A ls hC hr hk hw hl
  have hC : Cx p s m c RX5 cX5_living 4 args D cy := hC
  have hx := hC.1
  have hb := hC.2.1
  have hl : lv_has ls 4 [(0, .long x0)] := hl
  obtain ⟨H, eH⟩ : ∃ z : Heap, z = s.heap := ⟨_, rfl⟩
  obtain ⟨locs, elocs⟩ : ∃ z : List Loc, z = [] := ⟨_, rfl⟩
  have hw : InW D w A s.heap H locs S := by rw [eH, elocs]; exact hw
  suffices hsu : W p l e (rmN 2) s m args below meth c H locs 0 0 (QI below args s D w A r S) (F0 m 0 ls []) by rw [eH, elocs] at hsu; exact hsu
  unfold m_X5_living at h
  refine lv_iconst (v := 0) hx hb dX5_living_0 (by decide) ?_
  refine lv_istore_n (lv' := [(2, .int (0 : Int32)), (0, .long x0)]) hx hb dX5_living_1 rfl hl (by decide) rfl (fun ls hl => ?_)
  refine lv_iconst (v := 0) hx hb dX5_living_2 (by decide) ?_
  refine lv_istore_n (lv' := [(3, .int (0 : Int32)), (2, .int (0 : Int32)), (0, .long x0)]) hx hb dX5_living_3 rfl hl (by decide) rfl (fun ls hl => ?_)
  refine lq2_ok (fun (x2_1 : Int32) (x3_2 : Int32) => ∀ (H : Heap) (locs : List Loc) (ls : Array Slot), InW D w A s.heap H locs S → lv_has ls 4 [(0, .long x0), (2, .int x2_1), (3, .int x3_2)] → W p l e (rmN 2) s m args below meth c H locs 0 0 (QI below args s D w A r S) (F0 m 4 ls [])) ?_ fu (0 : Int32) (0 : Int32) h H locs ls hw (lv_sub hl [2, 1, 0] rfl)
  intro ag_3 hag_3 x2_1 x3_2 h H locs ls hw hl
  unfold m_X5_living_L4 at h
  refine lv_iload_n hx hb dX5_living_4 rfl (lv_at hl 2 rfl) ?_
  refine lv_iconst (v := 5) hx hb dX5_living_5 (by decide) ?_
  refine lv_icmp_ge (tgt := 29) hx hb dX5_living_6 (by decide) (fun c_4 => ?_) (fun c_4 => ?_)
  · have h := if_at_t c_4 h
    refine lv_iload_n hx hb dX5_living_29 rfl (lv_at hl 1 rfl) ?_
    exact rtI hC hr hk hw (so_at h) rfl dX5_living_30
  · have h := if_at_f c_4 h
    refine lv_lload_n hx hb dX5_living_9 rfl (lv_at hl 0 rfl) ?_
    refine lv_iload_n hx hb dX5_living_10 rfl (lv_at hl 2 rfl) ?_
    obtain ⟨v_6, hc_5, h⟩ := bd_at h
    refine caSI (As := [.long x0, .int x3_2]) (rest := []) hC hw hl.1 lm_RX5_15 li_RX5 lk_yX5_lives ls_yX5_lives 2 rfl hd_X5_lives (by decide) (by decide) (Nat.le_of_ble_eq_true rfl) dX5_living_11 (k_X5_lives l D cy w S fu x0 x3_2 _ hc_5) (fun H locs hw => ?_)
    refine jn1_ok (fun (x2_7 : Int32) => ∀ (H : Heap) (locs : List Loc) (ls : Array Slot), InW D w A s.heap H locs S → lv_has ls 4 [(0, .long x0), (2, .int x2_7), (3, .int x3_2)] → W p l e (rmN 2) s m args below meth c H locs 0 0 (QI below args s D w A r S) (F0 m 23 ls [])) ?_ ?_ h
    · intro x2_7 h H locs ls hw hl
      obtain ⟨x3_9, ex3_9⟩ : ∃ z : Int32, z = x3_2 + (1 : Int32) := ⟨_, rfl⟩
      have h := nm_at ex3_9 h
      refine lv_iinc (v := x3_9) (lv' := [(3, .int x3_9), (0, .long x0), (2, .int x2_7)]) hx hb dX5_living_23 hl (k := 2) rfl (by rw [ex3_9]; rfl) (by decide) rfl (fun ls hl => ?_)
      refine lv_goto (tgt := 4) hx hb dX5_living_26 (by decide) ?_
      exact hag_3 x2_7 x3_9 h H locs ls hw (lv_sub hl [1, 2, 0] rfl)
    · intro j_8 hj_8 h
      refine lv_if_eq (tgt := 23) hx hb dX5_living_14 (by decide) (fun c_10 => ?_) (fun c_10 => ?_)
      · have h := if_at_t c_10 h
        exact hj_8 x2_1 h H locs ls hw (lv_sub hl [0, 1, 2] rfl)
      · have h := if_at_f c_10 h
        refine lv_iload_n hx hb dX5_living_17 rfl (lv_at hl 1 rfl) ?_
        refine lv_iconst (v := 1) hx hb dX5_living_18 (by decide) ?_
        refine lv_iload_n hx hb dX5_living_19 rfl (lv_at hl 2 rfl) ?_
        refine lv_ishl hx hb dX5_living_20 ?_
        refine lv_ior hx hb dX5_living_21 ?_
        refine lv_topi (fun x2_11 ex2_11 => ?_)
        have h := nm_at ex2_11 h
        refine lv_istore_n (lv' := [(2, .int x2_11), (0, .long x0), (3, .int x3_2)]) hx hb dX5_living_22 rfl hl (by decide) rfl (fun ls hl => ?_)
        exact hj_8 x2_11 h H locs ls hw (lv_sub hl [1, 0, 2] rfl)
def m_X6_nextSeed (fu : Nat) (x0 : Int32) : Option Int32 :=
  some ((((((1103515245 : Int64) * (x0).toInt64) + (12345 : Int64)) &&& (2147483647 : Int64))).toInt32)
set_option maxRecDepth 100000 in
set_option maxHeartbeats 4000000 in
theorem k_X6_nextSeed (l : Launch) (D : va_G) (cy : ClassId) (w : ST → va_W) (S : ST) (fu : Nat) (x0 : Int32) (r : Int32) (h : m_X6_nextSeed fu x0 = some r) : CtI l yX6_nextSeed cX6_nextSeed 1 (some .int) 0 [.int x0] D cy w S r S := by
  refine CtI_of (by decide) (Nat.le_of_ble_eq_true rfl) ?_
  intro p e s m args below meth c A ls hC hr hk hw hl
  have hC : Cx p s m c RX6 cX6_nextSeed 1 args D cy := hC
  have hx := hC.1
  have hb := hC.2.1
  have hl : lv_has ls 1 [(0, .int x0)] := hl
  obtain ⟨H, eH⟩ : ∃ z : Heap, z = s.heap := ⟨_, rfl⟩
  obtain ⟨locs, elocs⟩ : ∃ z : List Loc, z = [] := ⟨_, rfl⟩
  have hw : InW D w A s.heap H locs S := by rw [eH, elocs]; exact hw
  suffices hsu : W p l e (rmN 0) s m args below meth c H locs 0 0 (QI below args s D w A r S) (F0 m 0 ls []) by rw [eH, elocs] at hsu; exact hsu
  unfold m_X6_nextSeed at h
  refine lv_ldc2 hx hb hC.2.2.2.1 (hC.2.2.2.2.1 _ lc_RX6_276) dX6_nextSeed_0 ?_
  refine lv_iload_n hx hb dX6_nextSeed_3 rfl (lv_at hl 0 rfl) ?_
  refine lv_i2l hx hb dX6_nextSeed_4 rfl ?_
  refine lv_lmul hx hb dX6_nextSeed_5 ?_
  refine lv_ldc2 hx hb hC.2.2.2.1 (hC.2.2.2.2.1 _ lc_RX6_278) dX6_nextSeed_6 ?_
  refine lv_ladd hx hb dX6_nextSeed_9 ?_
  refine lv_ldc2 hx hb hC.2.2.2.1 (hC.2.2.2.2.1 _ lc_RX6_280) dX6_nextSeed_10 ?_
  refine lv_land hx hb dX6_nextSeed_13 ?_
  refine lv_l2i hx hb dX6_nextSeed_14 rfl ?_
  exact rtI hC hr hk hw (so_at h) rfl dX6_nextSeed_15
def m_X6_mixed (fu : Nat) (x0 : Int64) (x2 : Int64) : Option Int64 :=
  some ((((31 : Int64) * x0) + x2))
set_option maxRecDepth 100000 in
set_option maxHeartbeats 4000000 in
theorem k_X6_mixed (l : Launch) (D : va_G) (cy : ClassId) (w : ST → va_W) (S : ST) (fu : Nat) (x0 : Int64) (x2 : Int64) (r : Int64) (h : m_X6_mixed fu x0 x2 = some r) : CtL l yX6_mixed cX6_mixed 4 (some .long) 0 [.long x0, .long x2] D cy w S r S := by
  refine CtL_of (by decide) (Nat.le_of_ble_eq_true rfl) ?_
  intro p e s m args below meth c A ls hC hr hk hw hl
  have hC : Cx p s m c RX6 cX6_mixed 4 args D cy := hC
  have hx := hC.1
  have hb := hC.2.1
  have hl : lv_has ls 4 [(0, .long x0), (2, .long x2)] := hl
  obtain ⟨H, eH⟩ : ∃ z : Heap, z = s.heap := ⟨_, rfl⟩
  obtain ⟨locs, elocs⟩ : ∃ z : List Loc, z = [] := ⟨_, rfl⟩
  have hw : InW D w A s.heap H locs S := by rw [eH, elocs]; exact hw
  suffices hsu : W p l e (rmN 0) s m args below meth c H locs 0 0 (QL below args s D w A r S) (F0 m 0 ls []) by rw [eH, elocs] at hsu; exact hsu
  unfold m_X6_mixed at h
  refine lv_ldc2 hx hb hC.2.2.2.1 (hC.2.2.2.2.1 _ lc_RX6_271) dX6_mixed_0 ?_
  refine lv_lload_n hx hb dX6_mixed_3 rfl (lv_at hl 0 rfl) ?_
  refine lv_lmul hx hb dX6_mixed_4 ?_
  refine lv_lload_n hx hb dX6_mixed_5 rfl (lv_at hl 1 rfl) ?_
  refine lv_ladd hx hb dX6_mixed_6 ?_
  exact rtL hC hr hk hw (so_at h) rfl dX6_mixed_7
