def m_X7_asItIs_L2 (fu : Nat) (ag_3 : Int32 → ST → Option ST) (x1_1 : Int32) (S_2 : ST) : Option ST :=
  (if (5 : Int32) ≤ x1_1 then some S_2 else gd (inB x1_1 5) (gd (inB x1_1 5) (nm (wrA S_2 5 x1_1 ((rdA S_2 3 x1_1))) (fun S_5 => gd (inB x1_1 5) (gd (inB x1_1 5) (nm (wrA S_5 6 x1_1 ((rdA S_5 4 x1_1))) (fun S_6 => nm (x1_1 + (1 : Int32)) (fun x1_7 => ag_3 x1_7 S_6))))))))
def m_X7_asItIs (fu : Nat) (S : ST) : Option ST :=
  lq2 (m_X7_asItIs_L2 fu) fu (0 : Int32) S
set_option maxRecDepth 100000 in
set_option maxHeartbeats 4000000 in
theorem k_X7_asItIs (l : Launch) (D : va_G) (cy : ClassId) (a : Nat → Nat) (fu : Nat) (S : ST) (S' : ST) (h : m_X7_asItIs fu S = some S') : CtV l yX7_asItIs cX7_asItIs 2 none 0 [.ref (a 0)] D cy (wM cy a) S S' := by
  refine CtV_of (by decide) (Nat.le_of_ble_eq_true rfl) ?_
  intro p e s m args below meth c A ls hC hr hk hw hl
  have hC : Cx p s m c RX7 cX7_asItIs 2 args D cy := hC
  have hx := hC.1
  have hb := hC.2.1
  have hl : lv_has ls 2 [(0, .ref (a 0))] := hl
  obtain ⟨H, eH⟩ : ∃ z : Heap, z = s.heap := ⟨_, rfl⟩
  obtain ⟨locs, elocs⟩ : ∃ z : List Loc, z = [] := ⟨_, rfl⟩
  have hw : InW D (wM cy a) A s.heap H locs S := by rw [eH, elocs]; exact hw
  suffices hsu : W p l e (rmN 0) s m args below meth c H locs 0 0 (QV below args s D (wM cy a) A S') (F0 m 0 ls []) by rw [eH, elocs] at hsu; exact hsu
  unfold m_X7_asItIs at h
  refine lv_iconst (v := 0) hx hb dX7_asItIs_0 (by decide) ?_
  refine lv_istore_n (lv' := [(1, .int (0 : Int32)), (0, .ref (a 0))]) hx hb dX7_asItIs_1 rfl hl (by decide) rfl (fun ls hl => ?_)
  refine lq2_ok (fun (x1_1 : Int32) (S_2 : ST) => ∀ (H : Heap) (locs : List Loc) (ls : Array Slot), InW D (wM cy a) A s.heap H locs S_2 → lv_has ls 2 [(0, .ref (a 0)), (1, .int x1_1)] → W p l e (rmN 0) s m args below meth c H locs 0 0 (QV below args s D (wM cy a) A S') (F0 m 2 ls [])) ?_ fu (0 : Int32) S h H locs ls hw (lv_sub hl [1, 0] rfl)
  intro ag_3 hag_3 x1_1 S_2 h H locs ls hw hl
  unfold m_X7_asItIs_L2 at h
  refine lv_iload_n hx hb dX7_asItIs_2 rfl (lv_at hl 1 rfl) ?_
  refine lv_iconst (v := 5) hx hb dX7_asItIs_3 (by decide) ?_
  refine lv_icmp_ge (tgt := 37) hx hb dX7_asItIs_4 (by decide) (fun c_4 => ?_) (fun c_4 => ?_)
  · have h := if_at_t c_4 h
    exact rtV hC hr hk hw (so_at h) dX7_asItIs_37
  · have h := if_at_f c_4 h
    refine lv_aload_n hx hb dX7_asItIs_7 rfl (lv_at hl 0 rfl) ?_
    refine gf (v := .ref (a 6)) hC hw in_X7 0 5 10 (cM_0 cy a S_2) rfl (by decide) lf_RX7_25 rfl rfl dX7_asItIs_8 ?_
    refine lv_iload_n hx hb dX7_asItIs_11 rfl (lv_at hl 1 rfl) ?_
    refine lv_aload_n hx hb dX7_asItIs_12 rfl (lv_at hl 0 rfl) ?_
    refine gf (v := .ref (a 4)) hC hw in_X7 0 5 8 (cM_0 cy a S_2) rfl (by decide) lf_RX7_19 rfl rfl dX7_asItIs_13 ?_
    refine lv_iload_n hx hb dX7_asItIs_16 rfl (lv_at hl 1 rfl) ?_
    obtain ⟨hi, h⟩ := gd_at h
    refine ga hC hw 4 (cM_4 cy a S_2) hi dX7_asItIs_17 ?_
    obtain ⟨hi, h⟩ := gd_at h
    refine pa hC hw 6 (cM_6 cy a S_2) hi (rM_6 cy a S_2) dX7_asItIs_18 (fun H locs hw => ?_)
    obtain ⟨S_5, hw, h⟩ := nmw (P := fun z => InW D (wM cy a) A s.heap H locs z) hw h
    refine lv_aload_n hx hb dX7_asItIs_19 rfl (lv_at hl 0 rfl) ?_
    refine gf (v := .ref (a 7)) hC hw in_X7 0 5 11 (cM_0 cy a S_5) rfl (by decide) lf_RX7_28 rfl rfl dX7_asItIs_20 ?_
    refine lv_iload_n hx hb dX7_asItIs_23 rfl (lv_at hl 1 rfl) ?_
    refine lv_aload_n hx hb dX7_asItIs_24 rfl (lv_at hl 0 rfl) ?_
    refine gf (v := .ref (a 5)) hC hw in_X7 0 5 9 (cM_0 cy a S_5) rfl (by decide) lf_RX7_22 rfl rfl dX7_asItIs_25 ?_
    refine lv_iload_n hx hb dX7_asItIs_28 rfl (lv_at hl 1 rfl) ?_
    obtain ⟨hi, h⟩ := gd_at h
    refine ga hC hw 5 (cM_5 cy a S_5) hi dX7_asItIs_29 ?_
    obtain ⟨hi, h⟩ := gd_at h
    refine pa hC hw 7 (cM_7 cy a S_5) hi (rM_7 cy a S_5) dX7_asItIs_30 (fun H locs hw => ?_)
    obtain ⟨S_6, hw, h⟩ := nmw (P := fun z => InW D (wM cy a) A s.heap H locs z) hw h
    obtain ⟨x1_7, ex1_7⟩ : ∃ z : Int32, z = x1_1 + (1 : Int32) := ⟨_, rfl⟩
    have h := nm_at ex1_7 h
    refine lv_iinc (v := x1_7) (lv' := [(1, .int x1_7), (0, .ref (a 0))]) hx hb dX7_asItIs_31 hl (k := 1) rfl (by rw [ex1_7]; rfl) (by decide) rfl (fun ls hl => ?_)
    refine lv_goto (tgt := 2) hx hb dX7_asItIs_34 (by decide) ?_
    exact hag_3 x1_7 S_6 h H locs ls hw (lv_sub hl [1, 0] rfl)
def m_X7_fullness_6_L5 (fu : Nat) (x2 : Int32) (S : ST) (ag_3 : Int32 → Int32 → Option Int32) (x3_1 : Int32) (x4_2 : Int32) : Option Int32 :=
  (if (stI S 4) ≤ x4_2 then some x3_1 else gd (inB x4_2 5) (nm ((x3_1 + (((rdA S 5 x4_2) >>> (x2 &&& (31 : Int32))) &&& (1 : Int32)))) (fun x3_5 => nm (x4_2 + (1 : Int32)) (fun x4_6 => ag_3 x3_5 x4_6))))
def m_X7_fullness_6 (fu : Nat) (x2 : Int32) (S : ST) : Option Int32 :=
  lq2 (m_X7_fullness_6_L5 fu x2 S) fu (0 : Int32) (0 : Int32)
set_option maxRecDepth 100000 in
set_option maxHeartbeats 4000000 in
theorem k_X7_fullness_6 (l : Launch) (D : va_G) (cy : ClassId) (a : Nat → Nat) (fu : Nat) (x2 : Int32) (S : ST) (r : Int32) (h : m_X7_fullness_6 fu x2 S = some r) : CtI l yX7_fullness cX7_fullness 5 (some .int) 0 [.ref (a 0), .ref (a 6), .int x2] D cy (wM cy a) S r S := by
  refine CtI_of (by decide) (Nat.le_of_ble_eq_true rfl) ?_
  intro p e s m args below meth c A ls hC hr hk hw hl
  have hC : Cx p s m c RX7 cX7_fullness 5 args D cy := hC
  have hx := hC.1
  have hb := hC.2.1
  have hl : lv_has ls 5 [(0, .ref (a 0)), (1, .ref (a 6)), (2, .int x2)] := hl
  obtain ⟨H, eH⟩ : ∃ z : Heap, z = s.heap := ⟨_, rfl⟩
  obtain ⟨locs, elocs⟩ : ∃ z : List Loc, z = [] := ⟨_, rfl⟩
  have hw : InW D (wM cy a) A s.heap H locs S := by rw [eH, elocs]; exact hw
  suffices hsu : W p l e (rmN 0) s m args below meth c H locs 0 0 (QI below args s D (wM cy a) A r S) (F0 m 0 ls []) by rw [eH, elocs] at hsu; exact hsu
  unfold m_X7_fullness_6 at h
  refine lv_iconst (v := 0) hx hb dX7_fullness_0 (by decide) ?_
  refine lv_istore_n (lv' := [(3, .int (0 : Int32)), (0, .ref (a 0)), (1, .ref (a 6)), (2, .int x2)]) hx hb dX7_fullness_1 rfl hl (by decide) rfl (fun ls hl => ?_)
  refine lv_iconst (v := 0) hx hb dX7_fullness_2 (by decide) ?_
  refine lv_istore (lv' := [(4, .int (0 : Int32)), (3, .int (0 : Int32)), (0, .ref (a 0)), (1, .ref (a 6)), (2, .int x2)]) hx hb dX7_fullness_3 hl (by decide) rfl (fun ls hl => ?_)
  refine lq2_ok (fun (x3_1 : Int32) (x4_2 : Int32) => ∀ (H : Heap) (locs : List Loc) (ls : Array Slot), InW D (wM cy a) A s.heap H locs S → lv_has ls 5 [(0, .ref (a 0)), (1, .ref (a 6)), (2, .int x2), (3, .int x3_1), (4, .int x4_2)] → W p l e (rmN 0) s m args below meth c H locs 0 0 (QI below args s D (wM cy a) A r S) (F0 m 5 ls [])) ?_ fu (0 : Int32) (0 : Int32) h H locs ls hw (lv_sub hl [2, 3, 4, 1, 0] rfl)
  intro ag_3 hag_3 x3_1 x4_2 h H locs ls hw hl
  unfold m_X7_fullness_6_L5 at h
  refine lv_iload hx hb dX7_fullness_5 (lv_at hl 4 rfl) ?_
  refine lv_aload_n hx hb dX7_fullness_7 rfl (lv_at hl 0 rfl) ?_
  refine gf (v := .int (stI S 4)) hC hw in_X7 0 5 6 (cM_0 cy a S) rfl (by decide) lf_RX7_81 rfl rfl dX7_fullness_8 ?_
  refine lv_icmp_ge (tgt := 31) hx hb dX7_fullness_11 (by decide) (fun c_4 => ?_) (fun c_4 => ?_)
  · have h := if_at_t c_4 h
    refine lv_iload_n hx hb dX7_fullness_31 rfl (lv_at hl 3 rfl) ?_
    exact rtI hC hr hk hw (so_at h) rfl dX7_fullness_32
  · have h := if_at_f c_4 h
    refine lv_iload_n hx hb dX7_fullness_14 rfl (lv_at hl 3 rfl) ?_
    refine lv_aload_n hx hb dX7_fullness_15 rfl (lv_at hl 1 rfl) ?_
    refine lv_iload hx hb dX7_fullness_16 (lv_at hl 4 rfl) ?_
    obtain ⟨hi, h⟩ := gd_at h
    refine ga hC hw 6 (cM_6 cy a S) hi dX7_fullness_18 ?_
    refine lv_iload_n hx hb dX7_fullness_19 rfl (lv_at hl 2 rfl) ?_
    refine lv_ishr hx hb dX7_fullness_20 ?_
    refine lv_iconst (v := 1) hx hb dX7_fullness_21 (by decide) ?_
    refine lv_iand hx hb dX7_fullness_22 ?_
    refine lv_iadd hx hb dX7_fullness_23 ?_
    refine lv_topi (fun x3_5 ex3_5 => ?_)
    have h := nm_at ex3_5 h
    refine lv_istore_n (lv' := [(3, .int x3_5), (0, .ref (a 0)), (1, .ref (a 6)), (2, .int x2), (4, .int x4_2)]) hx hb dX7_fullness_24 rfl hl (by decide) rfl (fun ls hl => ?_)
    obtain ⟨x4_6, ex4_6⟩ : ∃ z : Int32, z = x4_2 + (1 : Int32) := ⟨_, rfl⟩
    have h := nm_at ex4_6 h
    refine lv_iinc (v := x4_6) (lv' := [(4, .int x4_6), (3, .int x3_5), (0, .ref (a 0)), (1, .ref (a 6)), (2, .int x2)]) hx hb dX7_fullness_25 hl (k := 4) rfl (by rw [ex4_6]; rfl) (by decide) rfl (fun ls hl => ?_)
    refine lv_goto (tgt := 5) hx hb dX7_fullness_28 (by decide) ?_
    exact hag_3 x3_5 x4_6 h H locs ls hw (lv_sub hl [2, 3, 4, 1, 0] rfl)
def m_X7_spread_L2 (fu : Nat) (x1 : Int32) (S : ST) (j_2 : Int32 → Option ST) (ag_5 : Int32 → Option ST) (x2_4 : Int32) : Option ST :=
  (if (6 : Int32) ≤ x2_4 then some S else gd (inB x1 5) (jn0 (nm (x2_4 + (1 : Int32)) (fun x2_8 => ag_5 x2_8)) (fun j_7 => (if (((rdA S 5 x1) >>> (x2_4 &&& (31 : Int32))) &&& (1 : Int32)) = (0 : Int32) then bd (m_X7_fullness_6 fu x2_4 S) (fun v_11 => (if (stI S 1) ≤ v_11 then j_7 else j_2 x2_4)) else j_7))))
def m_X7_spread (fu : Nat) (x1 : Int32) (S : ST) : Option ST :=
  jn1 (fun (x2_1 : Int32) => gd (inB x1 5) (gd (inB x1 5) (nm (wrA S 5 x1 (((rdA S 5 x1) ||| ((1 : Int32) <<< (x2_1 &&& (31 : Int32)))))) (fun S_3 => some S_3)))) (fun j_2 => lq1 (m_X7_spread_L2 fu x1 S j_2) fu (0 : Int32))
set_option maxRecDepth 100000 in
set_option maxHeartbeats 4000000 in
theorem k_X7_spread (l : Launch) (D : va_G) (cy : ClassId) (a : Nat → Nat) (fu : Nat) (x1 : Int32) (S : ST) (S' : ST) (h : m_X7_spread fu x1 S = some S') : CtV l yX7_spread cX7_spread 3 none 1 [.ref (a 0), .int x1] D cy (wM cy a) S S' := by
  refine CtV_of (by decide) (Nat.le_of_ble_eq_true rfl) ?_
  intro p e s m args below meth c A ls hC hr hk hw hl
  have hC : Cx p s m c RX7 cX7_spread 3 args D cy := hC
  have hx := hC.1
  have hb := hC.2.1
  have hl : lv_has ls 3 [(0, .ref (a 0)), (1, .int x1)] := hl
  obtain ⟨H, eH⟩ : ∃ z : Heap, z = s.heap := ⟨_, rfl⟩
  obtain ⟨locs, elocs⟩ : ∃ z : List Loc, z = [] := ⟨_, rfl⟩
  have hw : InW D (wM cy a) A s.heap H locs S := by rw [eH, elocs]; exact hw
  suffices hsu : W p l e (rmN 1) s m args below meth c H locs 0 0 (QV below args s D (wM cy a) A S') (F0 m 0 ls []) by rw [eH, elocs] at hsu; exact hsu
  unfold m_X7_spread at h
  refine lv_iconst (v := 0) hx hb dX7_spread_0 (by decide) ?_
  refine lv_istore_n (lv' := [(2, .int (0 : Int32)), (0, .ref (a 0)), (1, .int x1)]) hx hb dX7_spread_1 rfl hl (by decide) rfl (fun ls hl => ?_)
  refine jn1_ok (fun (x2_1 : Int32) => ∀ (H : Heap) (locs : List Loc) (ls : Array Slot), InW D (wM cy a) A s.heap H locs S → lv_has ls 3 [(0, .ref (a 0)), (1, .int x1), (2, .int x2_1)] → W p l e (rmN 1) s m args below meth c H locs 0 0 (QV below args s D (wM cy a) A S') (F0 m 37 ls [])) ?_ ?_ h
  · intro x2_1 h H locs ls hw hl
    refine lv_aload_n hx hb dX7_spread_37 rfl (lv_at hl 0 rfl) ?_
    refine gf (v := .ref (a 6)) hC hw in_X7 0 5 10 (cM_0 cy a S) rfl (by decide) lf_RX7_25 rfl rfl dX7_spread_38 ?_
    refine lv_iload_n hx hb dX7_spread_41 rfl (lv_at hl 1 rfl) ?_
    refine lv_dup2_11 hx hb dX7_spread_42 rfl rfl ?_
    obtain ⟨hi, h⟩ := gd_at h
    refine ga hC hw 6 (cM_6 cy a S) hi dX7_spread_43 ?_
    refine lv_iconst (v := 1) hx hb dX7_spread_44 (by decide) ?_
    refine lv_iload_n hx hb dX7_spread_45 rfl (lv_at hl 2 rfl) ?_
    refine lv_ishl hx hb dX7_spread_46 ?_
    refine lv_ior hx hb dX7_spread_47 ?_
    obtain ⟨hi, h⟩ := gd_at h
    refine pa hC hw 6 (cM_6 cy a S) hi (rM_6 cy a S) dX7_spread_48 (fun H locs hw => ?_)
    obtain ⟨S_3, hw, h⟩ := nmw (P := fun z => InW D (wM cy a) A s.heap H locs z) hw h
    exact rtV hC hr hk hw (so_at h) dX7_spread_49
  · intro j_2 hj_2 h
    refine lq1_ok (fun (x2_4 : Int32) => ∀ (H : Heap) (locs : List Loc) (ls : Array Slot), InW D (wM cy a) A s.heap H locs S → lv_has ls 3 [(0, .ref (a 0)), (1, .int x1), (2, .int x2_4)] → W p l e (rmN 1) s m args below meth c H locs 0 0 (QV below args s D (wM cy a) A S') (F0 m 2 ls [])) ?_ fu (0 : Int32) h H locs ls hw (lv_sub hl [1, 2, 0] rfl)
    intro ag_5 hag_5 x2_4 h H locs ls hw hl
    unfold m_X7_spread_L2 at h
    refine lv_iload_n hx hb dX7_spread_2 rfl (lv_at hl 2 rfl) ?_
    refine lv_bipush (v := 6) hx hb dX7_spread_3 (by decide) ?_
    refine lv_icmp_ge (tgt := 56) hx hb dX7_spread_5 (by decide) (fun c_6 => ?_) (fun c_6 => ?_)
    · have h := if_at_t c_6 h
      exact rtV hC hr hk hw (so_at h) dX7_spread_56
    · have h := if_at_f c_6 h
      refine lv_aload_n hx hb dX7_spread_8 rfl (lv_at hl 0 rfl) ?_
      refine gf (v := .ref (a 6)) hC hw in_X7 0 5 10 (cM_0 cy a S) rfl (by decide) lf_RX7_25 rfl rfl dX7_spread_9 ?_
      refine lv_iload_n hx hb dX7_spread_12 rfl (lv_at hl 1 rfl) ?_
      obtain ⟨hi, h⟩ := gd_at h
      refine ga hC hw 6 (cM_6 cy a S) hi dX7_spread_13 ?_
      refine lv_iload_n hx hb dX7_spread_14 rfl (lv_at hl 2 rfl) ?_
      refine lv_ishr hx hb dX7_spread_15 ?_
      refine lv_iconst (v := 1) hx hb dX7_spread_16 (by decide) ?_
      refine lv_iand hx hb dX7_spread_17 ?_
      refine jn0_ok (∀ (H : Heap) (locs : List Loc) (ls : Array Slot), InW D (wM cy a) A s.heap H locs S → lv_has ls 3 [(0, .ref (a 0)), (1, .int x1), (2, .int x2_4)] → W p l e (rmN 1) s m args below meth c H locs 0 0 (QV below args s D (wM cy a) A S') (F0 m 50 ls [])) ?_ ?_ h
      · intro h H locs ls hw hl
        obtain ⟨x2_8, ex2_8⟩ : ∃ z : Int32, z = x2_4 + (1 : Int32) := ⟨_, rfl⟩
        have h := nm_at ex2_8 h
        refine lv_iinc (v := x2_8) (lv' := [(2, .int x2_8), (0, .ref (a 0)), (1, .int x1)]) hx hb dX7_spread_50 hl (k := 2) rfl (by rw [ex2_8]; rfl) (by decide) rfl (fun ls hl => ?_)
        refine lv_goto (tgt := 2) hx hb dX7_spread_53 (by decide) ?_
        exact hag_5 x2_8 h H locs ls hw (lv_sub hl [1, 2, 0] rfl)
      · intro j_7 hj_7 h
        refine lv_if_ne (tgt := 50) hx hb dX7_spread_18 (by decide) (fun c_9 => ?_) (fun c_9 => ?_)
        · have h := if_at_f c_9 h
          exact hj_7 h H locs ls hw (lv_sub hl [0, 1, 2] rfl)
        · have h := if_at_t c_9 h
          refine lv_aload_n hx hb dX7_spread_21 rfl (lv_at hl 0 rfl) ?_
          refine lv_aload_n hx hb dX7_spread_22 rfl (lv_at hl 0 rfl) ?_
          refine gf (v := .ref (a 6)) hC hw in_X7 0 5 10 (cM_0 cy a S) rfl (by decide) lf_RX7_25 rfl rfl dX7_spread_23 ?_
          refine lv_iload_n hx hb dX7_spread_26 rfl (lv_at hl 2 rfl) ?_
          obtain ⟨v_11, hc_10, h⟩ := bd_at h
          refine caVI (As := [.ref (a 6), .int x2_4]) (rest := []) hC hw hl.1 lm_RX7_95 li_RX7 lk_yX7_fullness li_yX7_fullness ll_yX7_fullness 0 5 (cM_0 cy a S) rfl 2 rfl hd_X7_fullness (by decide) (by decide) (Nat.le_of_ble_eq_true rfl) dX7_spread_27 (k_X7_fullness_6 l D cy a fu x2_4 S _ hc_10) (fun H locs hw => ?_)
          refine lv_aload_n hx hb dX7_spread_30 rfl (lv_at hl 0 rfl) ?_
          refine gf (v := .int (stI S 1)) hC hw in_X7 0 5 2 (cM_0 cy a S) rfl (by decide) lf_RX7_78 rfl rfl dX7_spread_31 ?_
          refine lv_icmp_ge (tgt := 50) hx hb dX7_spread_34 (by decide) (fun c_12 => ?_) (fun c_12 => ?_)
          · have h := if_at_t c_12 h
            exact hj_7 h H locs ls hw (lv_sub hl [0, 1, 2] rfl)
          · have h := if_at_f c_12 h
            exact hj_2 x2_4 h H locs ls hw (lv_sub hl [0, 1, 2] rfl)
def m_X7_isPointedAt_L4 (fu : Nat) (x1 : Int32) (S : ST) (ag_3 : Int32 → Int32 → Option Int32) (x2_1 : Int32) (x3_2 : Int32) : Option Int32 :=
  (if (stI S 4) ≤ x3_2 then gd (zB x2_1) (some x2_1) else jn1 (fun (x3_5 : Int32) => nm (x3_5 + (1 : Int32)) (fun x3_7 => ag_3 (1 : Int32) x3_7)) (fun j_6 => jn1 (fun (v_8 : Int32) => nm (x3_2 + (1 : Int32)) (fun x3_10 => ag_3 v_8 x3_10)) (fun j_9 => (if x2_1 = (0 : Int32) then gd (inB x3_2 5) (jn0 (j_9 (0 : Int32)) (fun j_12 => (if (rdA S 7 x3_2) = (0 : Int32) then j_12 else gd (inB ((((2 : Int32) * x3_2) + (1 : Int32))) 10) ((if (rdA S 2 ((((2 : Int32) * x3_2) + (1 : Int32)))) = x1 then j_6 x3_2 else j_12))))) else j_6 x3_2))))
def m_X7_isPointedAt (fu : Nat) (x1 : Int32) (S : ST) : Option Int32 :=
  lq2 (m_X7_isPointedAt_L4 fu x1 S) fu (0 : Int32) (0 : Int32)
set_option maxRecDepth 100000 in
set_option maxHeartbeats 4000000 in
theorem k_X7_isPointedAt (l : Launch) (D : va_G) (cy : ClassId) (a : Nat → Nat) (fu : Nat) (x1 : Int32) (S : ST) (r : Int32) (h : m_X7_isPointedAt fu x1 S = some r) : CtI l yX7_isPointedAt cX7_isPointedAt 4 (some .boolean) 0 [.ref (a 0), .int x1] D cy (wM cy a) S r S := by
  refine CtI_of (by decide) (Nat.le_of_ble_eq_true rfl) ?_
  intro p e s m args below meth c A ls hC hr hk hw hl
  have hC : Cx p s m c RX7 cX7_isPointedAt 4 args D cy := hC
  have hx := hC.1
  have hb := hC.2.1
  have hl : lv_has ls 4 [(0, .ref (a 0)), (1, .int x1)] := hl
  obtain ⟨H, eH⟩ : ∃ z : Heap, z = s.heap := ⟨_, rfl⟩
  obtain ⟨locs, elocs⟩ : ∃ z : List Loc, z = [] := ⟨_, rfl⟩
  have hw : InW D (wM cy a) A s.heap H locs S := by rw [eH, elocs]; exact hw
  suffices hsu : W p l e (rmN 0) s m args below meth c H locs 0 0 (QI below args s D (wM cy a) A r S) (F0 m 0 ls []) by rw [eH, elocs] at hsu; exact hsu
  unfold m_X7_isPointedAt at h
  refine lv_iconst (v := 0) hx hb dX7_isPointedAt_0 (by decide) ?_
  refine lv_istore_n (lv' := [(2, .int (0 : Int32)), (0, .ref (a 0)), (1, .int x1)]) hx hb dX7_isPointedAt_1 rfl hl (by decide) rfl (fun ls hl => ?_)
  refine lv_iconst (v := 0) hx hb dX7_isPointedAt_2 (by decide) ?_
  refine lv_istore_n (lv' := [(3, .int (0 : Int32)), (2, .int (0 : Int32)), (0, .ref (a 0)), (1, .int x1)]) hx hb dX7_isPointedAt_3 rfl hl (by decide) rfl (fun ls hl => ?_)
  refine lq2_ok (fun (x2_1 : Int32) (x3_2 : Int32) => ∀ (H : Heap) (locs : List Loc) (ls : Array Slot), InW D (wM cy a) A s.heap H locs S → lv_has ls 4 [(0, .ref (a 0)), (1, .int x1), (2, .int x2_1), (3, .int x3_2)] → W p l e (rmN 0) s m args below meth c H locs 0 0 (QI below args s D (wM cy a) A r S) (F0 m 4 ls [])) ?_ fu (0 : Int32) (0 : Int32) h H locs ls hw (lv_sub hl [2, 3, 1, 0] rfl)
  intro ag_3 hag_3 x2_1 x3_2 h H locs ls hw hl
  unfold m_X7_isPointedAt_L4 at h
  refine lv_iload_n hx hb dX7_isPointedAt_4 rfl (lv_at hl 3 rfl) ?_
  refine lv_aload_n hx hb dX7_isPointedAt_5 rfl (lv_at hl 0 rfl) ?_
  refine gf (v := .int (stI S 4)) hC hw in_X7 0 5 6 (cM_0 cy a S) rfl (by decide) lf_RX7_81 rfl rfl dX7_isPointedAt_6 ?_
  refine lv_icmp_ge (tgt := 51) hx hb dX7_isPointedAt_9 (by decide) (fun c_4 => ?_) (fun c_4 => ?_)
  · have h := if_at_t c_4 h
    refine lv_iload_n hx hb dX7_isPointedAt_51 rfl (lv_at hl 2 rfl) ?_
    obtain ⟨hz, h⟩ := gd_at h
    exact rtZ hC hr hk hw hz (so_at h) rfl dX7_isPointedAt_52
  · have h := if_at_f c_4 h
    refine lv_iload_n hx hb dX7_isPointedAt_12 rfl (lv_at hl 2 rfl) ?_
    refine jn1_ok (fun (x3_5 : Int32) => ∀ (H : Heap) (locs : List Loc) (ls : Array Slot), InW D (wM cy a) A s.heap H locs S → lv_has ls 4 [(0, .ref (a 0)), (1, .int x1), (3, .int x3_5)] → W p l e (rmN 0) s m args below meth c H locs 0 0 (QI below args s D (wM cy a) A r S) (F0 m 39 ls [])) ?_ ?_ h
    · intro x3_5 h H locs ls hw hl
      refine lv_iconst (v := 1) hx hb dX7_isPointedAt_39 (by decide) ?_
      refine lv_goto (tgt := 44) hx hb dX7_isPointedAt_40 (by decide) ?_
      refine lv_istore_n (lv' := [(2, .int (1 : Int32)), (0, .ref (a 0)), (1, .int x1), (3, .int x3_5)]) hx hb dX7_isPointedAt_44 rfl hl (by decide) rfl (fun ls hl => ?_)
      obtain ⟨x3_7, ex3_7⟩ : ∃ z : Int32, z = x3_5 + (1 : Int32) := ⟨_, rfl⟩
      have h := nm_at ex3_7 h
      refine lv_iinc (v := x3_7) (lv' := [(3, .int x3_7), (2, .int (1 : Int32)), (0, .ref (a 0)), (1, .int x1)]) hx hb dX7_isPointedAt_45 hl (k := 3) rfl (by rw [ex3_7]; rfl) (by decide) rfl (fun ls hl => ?_)
      refine lv_goto (tgt := 4) hx hb dX7_isPointedAt_48 (by decide) ?_
      exact hag_3 (1 : Int32) x3_7 h H locs ls hw (lv_sub hl [2, 3, 1, 0] rfl)
    · intro j_6 hj_6 h
      refine jn1_ok (fun (v_8 : Int32) => ∀ (H : Heap) (locs : List Loc) (ls : Array Slot), InW D (wM cy a) A s.heap H locs S → lv_has ls 4 [(0, .ref (a 0)), (1, .int x1), (3, .int x3_2)] → W p l e (rmN 0) s m args below meth c H locs 0 0 (QI below args s D (wM cy a) A r S) (F0 m 44 ls [.int v_8])) ?_ ?_ h
      · intro v_8 h H locs ls hw hl
        refine lv_istore_n (lv' := [(2, .int v_8), (0, .ref (a 0)), (1, .int x1), (3, .int x3_2)]) hx hb dX7_isPointedAt_44 rfl hl (by decide) rfl (fun ls hl => ?_)
        obtain ⟨x3_10, ex3_10⟩ : ∃ z : Int32, z = x3_2 + (1 : Int32) := ⟨_, rfl⟩
        have h := nm_at ex3_10 h
        refine lv_iinc (v := x3_10) (lv' := [(3, .int x3_10), (2, .int v_8), (0, .ref (a 0)), (1, .int x1)]) hx hb dX7_isPointedAt_45 hl (k := 3) rfl (by rw [ex3_10]; rfl) (by decide) rfl (fun ls hl => ?_)
        refine lv_goto (tgt := 4) hx hb dX7_isPointedAt_48 (by decide) ?_
        exact hag_3 v_8 x3_10 h H locs ls hw (lv_sub hl [2, 3, 1, 0] rfl)
      · intro j_9 hj_9 h
        refine lv_if_ne (tgt := 39) hx hb dX7_isPointedAt_13 (by decide) (fun c_11 => ?_) (fun c_11 => ?_)
        · have h := if_at_f c_11 h
          exact hj_6 x3_2 h H locs ls hw (lv_sub hl [0, 1, 3] rfl)
        · have h := if_at_t c_11 h
          refine lv_aload_n hx hb dX7_isPointedAt_16 rfl (lv_at hl 0 rfl) ?_
          refine gf (v := .ref (a 8)) hC hw in_X7 0 5 12 (cM_0 cy a S) rfl (by decide) lf_RX7_31 rfl rfl dX7_isPointedAt_17 ?_
          refine lv_iload_n hx hb dX7_isPointedAt_20 rfl (lv_at hl 3 rfl) ?_
          obtain ⟨hi, h⟩ := gd_at h
          refine ga hC hw 8 (cM_8 cy a S) hi dX7_isPointedAt_21 ?_
          refine jn0_ok (∀ (H : Heap) (locs : List Loc) (ls : Array Slot), InW D (wM cy a) A s.heap H locs S → lv_has ls 4 [(0, .ref (a 0)), (1, .int x1), (3, .int x3_2)] → W p l e (rmN 0) s m args below meth c H locs 0 0 (QI below args s D (wM cy a) A r S) (F0 m 43 ls [])) ?_ ?_ h
          · intro h H locs ls hw hl
            refine lv_iconst (v := 0) hx hb dX7_isPointedAt_43 (by decide) ?_
            exact hj_9 (0 : Int32) h H locs ls hw (lv_sub hl [0, 1, 2] rfl)
          · intro j_12 hj_12 h
            refine lv_if_eq (tgt := 43) hx hb dX7_isPointedAt_22 (by decide) (fun c_13 => ?_) (fun c_13 => ?_)
            · have h := if_at_t c_13 h
              exact hj_12 h H locs ls hw (lv_sub hl [0, 1, 3] rfl)
            · have h := if_at_f c_13 h
              refine lv_aload_n hx hb dX7_isPointedAt_25 rfl (lv_at hl 0 rfl) ?_
              refine gf (v := .ref (a 3)) hC hw in_X7 0 5 7 (cM_0 cy a S) rfl (by decide) lf_RX7_16 rfl rfl dX7_isPointedAt_26 ?_
              refine lv_iconst (v := 2) hx hb dX7_isPointedAt_29 (by decide) ?_
              refine lv_iload_n hx hb dX7_isPointedAt_30 rfl (lv_at hl 3 rfl) ?_
              refine lv_imul hx hb dX7_isPointedAt_31 ?_
              refine lv_iconst (v := 1) hx hb dX7_isPointedAt_32 (by decide) ?_
              refine lv_iadd hx hb dX7_isPointedAt_33 ?_
              obtain ⟨hi, h⟩ := gd_at h
              refine ga hC hw 3 (cM_3 cy a S) hi dX7_isPointedAt_34 ?_
              refine lv_iload_n hx hb dX7_isPointedAt_35 rfl (lv_at hl 1 rfl) ?_
              refine lv_icmp_ne (tgt := 43) hx hb dX7_isPointedAt_36 (by decide) (fun c_14 => ?_) (fun c_14 => ?_)
              · have h := if_at_f c_14 h
                exact hj_12 h H locs ls hw (lv_sub hl [0, 1, 3] rfl)
              · have h := if_at_t c_14 h
                exact hj_6 x3_2 h H locs ls hw (lv_sub hl [0, 1, 3] rfl)
def m_X7_burnsOf (fu : Nat) (x1 : Int32) (x2 : Int32) (S : ST) : Option (Int32 × ST) :=
  gd (inB x1 5) (jn1 (fun (v_1 : Int32) => gd (inB x1 5) (jn1 (fun (v_3 : Int32) => jn0 (gd (inB x1 5) (jn1 (fun (v_6 : Int32) => gd (inB x1 5) (nm (wrA S 6 x1 (((rdA S 6 x1) + v_6))) (fun S_8 => some ((0 : Int32), S_8)))) (fun j_7 => (if v_3 = (0 : Int32) then j_7 (0 : Int32) else j_7 (1 : Int32))))) (fun j_5 => (if v_1 = (0 : Int32) then j_5 else (if v_3 = (0 : Int32) then nm (((1 : Int32) <<< (((x2 + (1 : Int32)) - (x2 + (1 : Int32)) / (6 : Int32) * (6 : Int32)) &&& (31 : Int32)))) (fun x5_12 => gd (inB (((2 : Int32) * x1)) 10) ((if (rdA S 2 (((2 : Int32) * x1))) = (4 : Int32) then gd (inB x1 5) (some ((((1 : Int32) <<< (x2 &&& (31 : Int32))) ||| ((rdA S 7 x1) &&& x5_12)), S)) else some ((((1 : Int32) <<< (x2 &&& (31 : Int32))) ||| (0 : Int32)), S)))) else j_5)))) (fun j_4 => jn0 (j_4 (0 : Int32)) (fun j_14 => (if (rdA S 7 x1) = ((1 : Int32) <<< (x2 &&& (31 : Int32))) then gd (inB x1 5) (gd (inB (((2 : Int32) * x1)) 10) (jn1 (fun (v_16 : Int32) => (if v_16 ≤ (rdA S 6 x1) then j_14 else bd (m_X7_isPointedAt fu x1 S) (fun v_20 => (if v_20 = (0 : Int32) then j_14 else j_4 (1 : Int32))))) (fun j_17 => (if (rdA S 2 (((2 : Int32) * x1))) = (2 : Int32) then j_17 (2 : Int32) else j_17 (1 : Int32))))) else j_14))))) (fun j_2 => (if (((rdA S 7 x1) >>> (x2 &&& (31 : Int32))) &&& (1 : Int32)) = (1 : Int32) then j_2 (1 : Int32) else j_2 (0 : Int32))))
set_option maxRecDepth 100000 in
set_option maxHeartbeats 4000000 in
theorem k_X7_burnsOf (l : Launch) (D : va_G) (cy : ClassId) (a : Nat → Nat) (fu : Nat) (x1 : Int32) (x2 : Int32) (S : ST) (r : Int32) (S' : ST) (h : m_X7_burnsOf fu x1 x2 S = some (r, S')) : CtI l yX7_burnsOf cX7_burnsOf 6 (some .int) 1 [.ref (a 0), .int x1, .int x2] D cy (wM cy a) S r S' := by
  refine CtI_of (by decide) (Nat.le_of_ble_eq_true rfl) ?_
  intro p e s m args below meth c A ls hC hr hk hw hl
  have hC : Cx p s m c RX7 cX7_burnsOf 6 args D cy := hC
  have hx := hC.1
  have hb := hC.2.1
  have hl : lv_has ls 6 [(0, .ref (a 0)), (1, .int x1), (2, .int x2)] := hl
  obtain ⟨H, eH⟩ : ∃ z : Heap, z = s.heap := ⟨_, rfl⟩
  obtain ⟨locs, elocs⟩ : ∃ z : List Loc, z = [] := ⟨_, rfl⟩
  have hw : InW D (wM cy a) A s.heap H locs S := by rw [eH, elocs]; exact hw
  suffices hsu : W p l e (rmN 1) s m args below meth c H locs 0 0 (QI below args s D (wM cy a) A r S') (F0 m 0 ls []) by rw [eH, elocs] at hsu; exact hsu
  unfold m_X7_burnsOf at h
  refine lv_aload_n hx hb dX7_burnsOf_0 rfl (lv_at hl 0 rfl) ?_
  refine gf (v := .ref (a 8)) hC hw in_X7 0 5 12 (cM_0 cy a S) rfl (by decide) lf_RX7_31 rfl rfl dX7_burnsOf_1 ?_
  refine lv_iload_n hx hb dX7_burnsOf_4 rfl (lv_at hl 1 rfl) ?_
  obtain ⟨hi, h⟩ := gd_at h
  refine ga hC hw 8 (cM_8 cy a S) hi dX7_burnsOf_5 ?_
  refine lv_iload_n hx hb dX7_burnsOf_6 rfl (lv_at hl 2 rfl) ?_
  refine lv_ishr hx hb dX7_burnsOf_7 ?_
  refine lv_iconst (v := 1) hx hb dX7_burnsOf_8 (by decide) ?_
  refine lv_iand hx hb dX7_burnsOf_9 ?_
  refine lv_iconst (v := 1) hx hb dX7_burnsOf_10 (by decide) ?_
  refine jn1_ok (fun (v_1 : Int32) => ∀ (H : Heap) (locs : List Loc) (ls : Array Slot), InW D (wM cy a) A s.heap H locs S → lv_has ls 6 [(0, .ref (a 0)), (1, .int x1), (2, .int x2)] → W p l e (rmN 1) s m args below meth c H locs 0 0 (QI below args s D (wM cy a) A r S') (F0 m 19 ls [.int v_1])) ?_ ?_ h
  · intro v_1 h H locs ls hw hl
    refine lv_istore_n (lv' := [(3, .int v_1), (0, .ref (a 0)), (1, .int x1), (2, .int x2)]) hx hb dX7_burnsOf_19 rfl hl (by decide) rfl (fun ls hl => ?_)
    refine lv_aload_n hx hb dX7_burnsOf_20 rfl (lv_at hl 1 rfl) ?_
    refine gf (v := .ref (a 8)) hC hw in_X7 0 5 12 (cM_0 cy a S) rfl (by decide) lf_RX7_31 rfl rfl dX7_burnsOf_21 ?_
    refine lv_iload_n hx hb dX7_burnsOf_24 rfl (lv_at hl 2 rfl) ?_
    obtain ⟨hi, h⟩ := gd_at h
    refine ga hC hw 8 (cM_8 cy a S) hi dX7_burnsOf_25 ?_
    refine lv_iconst (v := 1) hx hb dX7_burnsOf_26 (by decide) ?_
    refine lv_iload_n hx hb dX7_burnsOf_27 rfl (lv_at hl 3 rfl) ?_
    refine lv_ishl hx hb dX7_burnsOf_28 ?_
    refine jn1_ok (fun (v_3 : Int32) => ∀ (H : Heap) (locs : List Loc) (ls : Array Slot), InW D (wM cy a) A s.heap H locs S → lv_has ls 6 [(0, .ref (a 0)), (1, .int x1), (2, .int x2), (3, .int v_1)] → W p l e (rmN 1) s m args below meth c H locs 0 0 (QI below args s D (wM cy a) A r S') (F0 m 71 ls [.int v_3])) ?_ ?_ h
    · intro v_3 h H locs ls hw hl
      refine lv_istore (lv' := [(4, .int v_3), (0, .ref (a 0)), (1, .int x1), (2, .int x2), (3, .int v_1)]) hx hb dX7_burnsOf_71 hl (by decide) rfl (fun ls hl => ?_)
      refine lv_iload_n hx hb dX7_burnsOf_73 rfl (lv_at hl 4 rfl) ?_
      refine jn0_ok (∀ (H : Heap) (locs : List Loc) (ls : Array Slot), InW D (wM cy a) A s.heap H locs S → lv_has ls 6 [(0, .ref (a 0)), (1, .int x1), (4, .int v_3)] → W p l e (rmN 1) s m args below meth c H locs 0 0 (QI below args s D (wM cy a) A r S') (F0 m 82 ls [])) ?_ ?_ h
      · intro h H locs ls hw hl
        refine lv_aload_n hx hb dX7_burnsOf_82 rfl (lv_at hl 0 rfl) ?_
        refine gf (v := .ref (a 7)) hC hw in_X7 0 5 11 (cM_0 cy a S) rfl (by decide) lf_RX7_28 rfl rfl dX7_burnsOf_83 ?_
        refine lv_iload_n hx hb dX7_burnsOf_86 rfl (lv_at hl 1 rfl) ?_
        refine lv_dup2_11 hx hb dX7_burnsOf_87 rfl rfl ?_
        obtain ⟨hi, h⟩ := gd_at h
        refine ga hC hw 7 (cM_7 cy a S) hi dX7_burnsOf_88 ?_
        refine lv_iload hx hb dX7_burnsOf_89 (lv_at hl 2 rfl) ?_
        refine jn1_ok (fun (v_6 : Int32) => ∀ (H : Heap) (locs : List Loc) (ls : Array Slot), InW D (wM cy a) A s.heap H locs S → lv_has ls 6 [] → W p l e (rmN 1) s m args below meth c H locs 0 0 (QI below args s D (wM cy a) A r S') (F0 m 99 ls [.int v_6, .int (rdA S 6 x1), .int x1, .ref (a 7)])) ?_ ?_ h
        · intro v_6 h H locs ls hw hl
          refine lv_iadd hx hb dX7_burnsOf_99 ?_
          obtain ⟨hi, h⟩ := gd_at h
          refine pa hC hw 7 (cM_7 cy a S) hi (rM_7 cy a S) dX7_burnsOf_100 (fun H locs hw => ?_)
          obtain ⟨S_8, hw, h⟩ := nmw (P := fun z => InW D (wM cy a) A s.heap H locs z) hw h
          refine lv_iconst (v := 0) hx hb dX7_burnsOf_101 (by decide) ?_
          exact rtI hC hr hk hw (so_at2 h).1 (so_at2 h).2 dX7_burnsOf_102
        · intro j_7 hj_7 h
          refine lv_if_eq (tgt := 98) hx hb dX7_burnsOf_91 (by decide) (fun c_9 => ?_) (fun c_9 => ?_)
          · have h := if_at_t c_9 h
            refine lv_iconst (v := 0) hx hb dX7_burnsOf_98 (by decide) ?_
            exact hj_7 (0 : Int32) h H locs ls hw (lv_sub hl [] rfl)
          · have h := if_at_f c_9 h
            refine lv_iconst (v := 1) hx hb dX7_burnsOf_94 (by decide) ?_
            refine lv_goto (tgt := 99) hx hb dX7_burnsOf_95 (by decide) ?_
            exact hj_7 (1 : Int32) h H locs ls hw (lv_sub hl [] rfl)
      · intro j_5 hj_5 h
        refine lv_if_eq (tgt := 82) hx hb dX7_burnsOf_74 (by decide) (fun c_10 => ?_) (fun c_10 => ?_)
        · have h := if_at_t c_10 h
          exact hj_5 h H locs ls hw (lv_sub hl [1, 2, 0] rfl)
        · have h := if_at_f c_10 h
          refine lv_iload hx hb dX7_burnsOf_77 (lv_at hl 0 rfl) ?_
          refine lv_if_eq (tgt := 103) hx hb dX7_burnsOf_79 (by decide) (fun c_11 => ?_) (fun c_11 => ?_)
          · have h := if_at_t c_11 h
            refine lv_iconst (v := 1) hx hb dX7_burnsOf_103 (by decide) ?_
            refine lv_iload_n hx hb dX7_burnsOf_104 rfl (lv_at hl 3 rfl) ?_
            refine lv_iconst (v := 1) hx hb dX7_burnsOf_105 (by decide) ?_
            refine lv_iadd hx hb dX7_burnsOf_106 ?_
            refine lv_bipush (v := 6) hx hb dX7_burnsOf_107 (by decide) ?_
            refine lv_irem hx hb dX7_burnsOf_109 (by decide) ?_
            refine lv_ishl hx hb dX7_burnsOf_110 ?_
            refine lv_topi (fun x5_12 ex5_12 => ?_)
            have h := nm_at ex5_12 h
            refine lv_istore (lv' := [(5, .int x5_12), (4, .int v_3), (0, .ref (a 0)), (1, .int x1), (2, .int x2), (3, .int v_1)]) hx hb dX7_burnsOf_111 hl (by decide) rfl (fun ls hl => ?_)
            refine lv_iconst (v := 1) hx hb dX7_burnsOf_113 (by decide) ?_
            refine lv_iload_n hx hb dX7_burnsOf_114 rfl (lv_at hl 4 rfl) ?_
            refine lv_ishl hx hb dX7_burnsOf_115 ?_
            refine lv_aload_n hx hb dX7_burnsOf_116 rfl (lv_at hl 2 rfl) ?_
            refine gf (v := .ref (a 3)) hC hw in_X7 0 5 7 (cM_0 cy a S) rfl (by decide) lf_RX7_16 rfl rfl dX7_burnsOf_117 ?_
            refine lv_iconst (v := 2) hx hb dX7_burnsOf_120 (by decide) ?_
            refine lv_iload_n hx hb dX7_burnsOf_121 rfl (lv_at hl 3 rfl) ?_
            refine lv_imul hx hb dX7_burnsOf_122 ?_
            obtain ⟨hi, h⟩ := gd_at h
            refine ga hC hw 3 (cM_3 cy a S) hi dX7_burnsOf_123 ?_
            refine lv_iconst (v := 4) hx hb dX7_burnsOf_124 (by decide) ?_
            refine lv_icmp_ne (tgt := 140) hx hb dX7_burnsOf_125 (by decide) (fun c_13 => ?_) (fun c_13 => ?_)
            · have h := if_at_f c_13 h
              refine lv_iconst (v := 0) hx hb dX7_burnsOf_140 (by decide) ?_
              refine lv_ior hx hb dX7_burnsOf_141 ?_
              exact rtI hC hr hk hw (so_at2 h).1 (so_at2 h).2 dX7_burnsOf_142
            · have h := if_at_t c_13 h
              refine lv_aload_n hx hb dX7_burnsOf_128 rfl (lv_at hl 2 rfl) ?_
              refine gf (v := .ref (a 8)) hC hw in_X7 0 5 12 (cM_0 cy a S) rfl (by decide) lf_RX7_31 rfl rfl dX7_burnsOf_129 ?_
              refine lv_iload_n hx hb dX7_burnsOf_132 rfl (lv_at hl 3 rfl) ?_
              obtain ⟨hi, h⟩ := gd_at h
              refine ga hC hw 8 (cM_8 cy a S) hi dX7_burnsOf_133 ?_
              refine lv_iload hx hb dX7_burnsOf_134 (lv_at hl 0 rfl) ?_
              refine lv_iand hx hb dX7_burnsOf_136 ?_
              refine lv_goto (tgt := 141) hx hb dX7_burnsOf_137 (by decide) ?_
              refine lv_ior hx hb dX7_burnsOf_141 ?_
              exact rtI hC hr hk hw (so_at2 h).1 (so_at2 h).2 dX7_burnsOf_142
          · have h := if_at_f c_11 h
            exact hj_5 h H locs ls hw (lv_sub hl [1, 2, 0] rfl)
    · intro j_4 hj_4 h
      refine jn0_ok (∀ (H : Heap) (locs : List Loc) (ls : Array Slot), InW D (wM cy a) A s.heap H locs S → lv_has ls 6 [(0, .ref (a 0)), (1, .int x1), (2, .int x2), (3, .int v_1)] → W p l e (rmN 1) s m args below meth c H locs 0 0 (QI below args s D (wM cy a) A r S') (F0 m 70 ls [])) ?_ ?_ h
      · intro h H locs ls hw hl
        refine lv_iconst (v := 0) hx hb dX7_burnsOf_70 (by decide) ?_
        exact hj_4 (0 : Int32) h H locs ls hw (lv_sub hl [0, 1, 2, 3] rfl)
      · intro j_14 hj_14 h
        refine lv_icmp_ne (tgt := 70) hx hb dX7_burnsOf_29 (by decide) (fun c_15 => ?_) (fun c_15 => ?_)
        · have h := if_at_f c_15 h
          exact hj_14 h H locs ls hw (lv_sub hl [1, 2, 3, 0] rfl)
        · have h := if_at_t c_15 h
          refine lv_aload_n hx hb dX7_burnsOf_32 rfl (lv_at hl 1 rfl) ?_
          refine gf (v := .ref (a 7)) hC hw in_X7 0 5 11 (cM_0 cy a S) rfl (by decide) lf_RX7_28 rfl rfl dX7_burnsOf_33 ?_
          refine lv_iload_n hx hb dX7_burnsOf_36 rfl (lv_at hl 2 rfl) ?_
          obtain ⟨hi, h⟩ := gd_at h
          refine ga hC hw 7 (cM_7 cy a S) hi dX7_burnsOf_37 ?_
          refine lv_aload_n hx hb dX7_burnsOf_38 rfl (lv_at hl 1 rfl) ?_
          refine gf (v := .ref (a 3)) hC hw in_X7 0 5 7 (cM_0 cy a S) rfl (by decide) lf_RX7_16 rfl rfl dX7_burnsOf_39 ?_
          refine lv_iconst (v := 2) hx hb dX7_burnsOf_42 (by decide) ?_
          refine lv_iload_n hx hb dX7_burnsOf_43 rfl (lv_at hl 2 rfl) ?_
          refine lv_imul hx hb dX7_burnsOf_44 ?_
          obtain ⟨hi, h⟩ := gd_at h
          refine ga hC hw 3 (cM_3 cy a S) hi dX7_burnsOf_45 ?_
          refine lv_iconst (v := 2) hx hb dX7_burnsOf_46 (by decide) ?_
          refine jn1_ok (fun (v_16 : Int32) => ∀ (H : Heap) (locs : List Loc) (ls : Array Slot), InW D (wM cy a) A s.heap H locs S → lv_has ls 6 [(0, .ref (a 0)), (1, .int x1), (2, .int x2), (3, .int v_1)] → W p l e (rmN 1) s m args below meth c H locs 0 0 (QI below args s D (wM cy a) A r S') (F0 m 55 ls [.int v_16, .int (rdA S 6 x1)])) ?_ ?_ h
          · intro v_16 h H locs ls hw hl
            refine lv_icmp_ge (tgt := 70) hx hb dX7_burnsOf_55 (by decide) (fun c_18 => ?_) (fun c_18 => ?_)
            · have h := if_at_t c_18 h
              exact hj_14 h H locs ls hw (lv_sub hl [0, 1, 2, 3] rfl)
            · have h := if_at_f c_18 h
              refine lv_aload_n hx hb dX7_burnsOf_58 rfl (lv_at hl 0 rfl) ?_
              refine lv_iload_n hx hb dX7_burnsOf_59 rfl (lv_at hl 1 rfl) ?_
              obtain ⟨v_20, hc_19, h⟩ := bd_at h
              refine caVI (As := [.int x1]) (rest := []) hC hw hl.1 lm_RX7_134 li_RX7 lk_yX7_isPointedAt li_yX7_isPointedAt ll_yX7_isPointedAt 0 5 (cM_0 cy a S) rfl 1 rfl hd_X7_isPointedAt (by decide) (by decide) (Nat.le_of_ble_eq_true rfl) dX7_burnsOf_60 (k_X7_isPointedAt l D cy a fu x1 S _ hc_19) (fun H locs hw => ?_)
              refine lv_if_eq (tgt := 70) hx hb dX7_burnsOf_63 (by decide) (fun c_21 => ?_) (fun c_21 => ?_)
              · have h := if_at_t c_21 h
                exact hj_14 h H locs ls hw (lv_sub hl [0, 1, 2, 3] rfl)
              · have h := if_at_f c_21 h
                refine lv_iconst (v := 1) hx hb dX7_burnsOf_66 (by decide) ?_
                refine lv_goto (tgt := 71) hx hb dX7_burnsOf_67 (by decide) ?_
                exact hj_4 (1 : Int32) h H locs ls hw (lv_sub hl [0, 1, 2, 3] rfl)
          · intro j_17 hj_17 h
            refine lv_icmp_ne (tgt := 54) hx hb dX7_burnsOf_47 (by decide) (fun c_22 => ?_) (fun c_22 => ?_)
            · have h := if_at_f c_22 h
              refine lv_iconst (v := 1) hx hb dX7_burnsOf_54 (by decide) ?_
              exact hj_17 (1 : Int32) h H locs ls hw (lv_sub hl [1, 2, 3, 0] rfl)
            · have h := if_at_t c_22 h
              refine lv_iconst (v := 2) hx hb dX7_burnsOf_50 (by decide) ?_
              refine lv_goto (tgt := 55) hx hb dX7_burnsOf_51 (by decide) ?_
              exact hj_17 (2 : Int32) h H locs ls hw (lv_sub hl [1, 2, 3, 0] rfl)
  · intro j_2 hj_2 h
    refine lv_icmp_ne (tgt := 18) hx hb dX7_burnsOf_11 (by decide) (fun c_23 => ?_) (fun c_23 => ?_)
    · have h := if_at_f c_23 h
      refine lv_iconst (v := 0) hx hb dX7_burnsOf_18 (by decide) ?_
      exact hj_2 (0 : Int32) h H locs ls hw (lv_sub hl [0, 1, 2] rfl)
    · have h := if_at_t c_23 h
      refine lv_iconst (v := 1) hx hb dX7_burnsOf_14 (by decide) ?_
      refine lv_goto (tgt := 19) hx hb dX7_burnsOf_15 (by decide) ?_
      exact hj_2 (1 : Int32) h H locs ls hw (lv_sub hl [0, 1, 2] rfl)
def m_X7_pass_L86 (fu : Nat) (x2_3 : Int32) (ag_8 : Int32 → ST → Option (Int32 × ST)) (x3_6 : Int32) (S_7 : ST) : Option (Int32 × ST) :=
  (if (stI S_7 4) ≤ x3_6 then some (x2_3, S_7) else gd (inB (((2 : Int32) * x3_6)) 10) (jn1 (fun (S_10 : ST) => nm (x3_6 + (1 : Int32)) (fun x3_12 => ag_8 x3_12 S_10)) (fun j_11 => (if (rdA S_7 2 (((2 : Int32) * x3_6))) = (1 : Int32) then gd (inB x3_6 5) ((if (rdA S_7 5 x3_6) = (0 : Int32) then j_11 S_7 else bd (m_X7_spread fu x3_6 S_7) (fun S_16 => j_11 S_16))) else j_11 S_7))))
def m_X7_pass_L41 (fu : Nat) (x1 : Int32) (j_5 : Int32 → ST → Option (Int32 × ST)) (ag_20 : Int32 → Int32 → ST → Option (Int32 × ST)) (x2_17 : Int32) (x3_18 : Int32) (S_19 : ST) : Option (Int32 × ST) :=
  (if (stI S_19 4) ≤ x3_18 then j_5 x2_17 S_19 else bd2 (m_X7_burnsOf fu x3_18 x1 S_19) (fun v_23 S_24 => gd (inB x3_18 5) (gd (inB x3_18 5) (nm (wrA S_24 5 x3_18 (((rdA S_24 5 x3_18) &&& (v_23 ^^^ (-1 : Int32))))) (fun S_25 => bd (m_X7_ones fu v_23) (fun v_27 => nm ((x2_17 + v_27)) (fun x2_28 => nm (x3_18 + (1 : Int32)) (fun x3_29 => ag_20 x2_28 x3_29 S_25))))))))
def m_X7_pass_L2 (fu : Nat) (x1 : Int32) (j_2 : ST → Option (Int32 × ST)) (ag_32 : Int32 → ST → Option (Int32 × ST)) (x2_30 : Int32) (S_31 : ST) : Option (Int32 × ST) :=
  (if (5 : Int32) ≤ x2_30 then j_2 S_31 else jn1 (fun (v_34 : Int32) => gd (inB x2_30 5) (nm (wrA S_31 7 x2_30 v_34) (fun S_36 => nm (x2_30 + (1 : Int32)) (fun x2_37 => ag_32 x2_37 S_36)))) (fun j_35 => (if (stI S_31 4) ≤ x2_30 then j_35 (0 : Int32) else gd (inB x2_30 5) (j_35 ((rdA S_31 5 x2_30))))))
def m_X7_pass (fu : Nat) (x1 : Int32) (S : ST) : Option (Int32 × ST) :=
  jn1 (fun (S_1 : ST) => jn2 (fun (x2_3 : Int32) (S_4 : ST) => lq2 (m_X7_pass_L86 fu x2_3) fu (0 : Int32) S_4) (fun j_5 => lq3 (m_X7_pass_L41 fu x1 j_5) fu (0 : Int32) (0 : Int32) S_1)) (fun j_2 => lq2 (m_X7_pass_L2 fu x1 j_2) fu (0 : Int32) S)
set_option maxRecDepth 100000 in
set_option maxHeartbeats 4000000 in
theorem k_X7_pass (l : Launch) (D : va_G) (cy : ClassId) (a : Nat → Nat) (fu : Nat) (x1 : Int32) (S : ST) (r : Int32) (S' : ST) (h : m_X7_pass fu x1 S = some (r, S')) : CtI l yX7_pass cX7_pass 5 (some .int) 2 [.ref (a 0), .int x1] D cy (wM cy a) S r S' := by
  refine CtI_of (by decide) (Nat.le_of_ble_eq_true rfl) ?_
  intro p e s m args below meth c A ls hC hr hk hw hl
  have hC : Cx p s m c RX7 cX7_pass 5 args D cy := hC
  have hx := hC.1
  have hb := hC.2.1
  have hl : lv_has ls 5 [(0, .ref (a 0)), (1, .int x1)] := hl
  obtain ⟨H, eH⟩ : ∃ z : Heap, z = s.heap := ⟨_, rfl⟩
  obtain ⟨locs, elocs⟩ : ∃ z : List Loc, z = [] := ⟨_, rfl⟩
  have hw : InW D (wM cy a) A s.heap H locs S := by rw [eH, elocs]; exact hw
  suffices hsu : W p l e (rmN 2) s m args below meth c H locs 0 0 (QI below args s D (wM cy a) A r S') (F0 m 0 ls []) by rw [eH, elocs] at hsu; exact hsu
  unfold m_X7_pass at h
  refine lv_iconst (v := 0) hx hb dX7_pass_0 (by decide) ?_
  refine lv_istore_n (lv' := [(2, .int (0 : Int32)), (0, .ref (a 0)), (1, .int x1)]) hx hb dX7_pass_1 rfl hl (by decide) rfl (fun ls hl => ?_)
  refine jn1_ok (fun (S_1 : ST) => ∀ (H : Heap) (locs : List Loc) (ls : Array Slot), InW D (wM cy a) A s.heap H locs S_1 → lv_has ls 5 [(0, .ref (a 0)), (1, .int x1)] → W p l e (rmN 2) s m args below meth c H locs 0 0 (QI below args s D (wM cy a) A r S') (F0 m 37 ls [])) ?_ ?_ h
  · intro S_1 h H locs ls hw hl
    refine lv_iconst (v := 0) hx hb dX7_pass_37 (by decide) ?_
    refine lv_istore_n (lv' := [(2, .int (0 : Int32)), (0, .ref (a 0)), (1, .int x1)]) hx hb dX7_pass_38 rfl hl (by decide) rfl (fun ls hl => ?_)
    refine lv_iconst (v := 0) hx hb dX7_pass_39 (by decide) ?_
    refine lv_istore_n (lv' := [(3, .int (0 : Int32)), (2, .int (0 : Int32)), (0, .ref (a 0)), (1, .int x1)]) hx hb dX7_pass_40 rfl hl (by decide) rfl (fun ls hl => ?_)
    refine jn2_ok (fun (x2_3 : Int32) (S_4 : ST) => ∀ (H : Heap) (locs : List Loc) (ls : Array Slot), InW D (wM cy a) A s.heap H locs S_4 → lv_has ls 5 [(0, .ref (a 0)), (2, .int x2_3)] → W p l e (rmN 2) s m args below meth c H locs 0 0 (QI below args s D (wM cy a) A r S') (F0 m 84 ls [])) ?_ ?_ h
    · intro x2_3 S_4 h H locs ls hw hl
      refine lv_iconst (v := 0) hx hb dX7_pass_84 (by decide) ?_
      refine lv_istore_n (lv' := [(3, .int (0 : Int32)), (0, .ref (a 0)), (2, .int x2_3)]) hx hb dX7_pass_85 rfl hl (by decide) rfl (fun ls hl => ?_)
      refine lq2_ok (fun (x3_6 : Int32) (S_7 : ST) => ∀ (H : Heap) (locs : List Loc) (ls : Array Slot), InW D (wM cy a) A s.heap H locs S_7 → lv_has ls 5 [(0, .ref (a 0)), (2, .int x2_3), (3, .int x3_6)] → W p l e (rmN 2) s m args below meth c H locs 0 0 (QI below args s D (wM cy a) A r S') (F0 m 86 ls [])) ?_ fu (0 : Int32) S_4 h H locs ls hw (lv_sub hl [1, 2, 0] rfl)
      intro ag_8 hag_8 x3_6 S_7 h H locs ls hw hl
      unfold m_X7_pass_L86 at h
      refine lv_iload_n hx hb dX7_pass_86 rfl (lv_at hl 2 rfl) ?_
      refine lv_aload_n hx hb dX7_pass_87 rfl (lv_at hl 0 rfl) ?_
      refine gf (v := .int (stI S_7 4)) hC hw in_X7 0 5 6 (cM_0 cy a S_7) rfl (by decide) lf_RX7_81 rfl rfl dX7_pass_88 ?_
      refine lv_icmp_ge (tgt := 126) hx hb dX7_pass_91 (by decide) (fun c_9 => ?_) (fun c_9 => ?_)
      · have h := if_at_t c_9 h
        refine lv_iload_n hx hb dX7_pass_126 rfl (lv_at hl 1 rfl) ?_
        exact rtI hC hr hk hw (so_at2 h).1 (so_at2 h).2 dX7_pass_127
      · have h := if_at_f c_9 h
        refine lv_aload_n hx hb dX7_pass_94 rfl (lv_at hl 0 rfl) ?_
        refine gf (v := .ref (a 3)) hC hw in_X7 0 5 7 (cM_0 cy a S_7) rfl (by decide) lf_RX7_16 rfl rfl dX7_pass_95 ?_
        refine lv_iconst (v := 2) hx hb dX7_pass_98 (by decide) ?_
        refine lv_iload_n hx hb dX7_pass_99 rfl (lv_at hl 2 rfl) ?_
        refine lv_imul hx hb dX7_pass_100 ?_
        obtain ⟨hi, h⟩ := gd_at h
        refine ga hC hw 3 (cM_3 cy a S_7) hi dX7_pass_101 ?_
        refine lv_iconst (v := 1) hx hb dX7_pass_102 (by decide) ?_
        refine jn1_ok (fun (S_10 : ST) => ∀ (H : Heap) (locs : List Loc) (ls : Array Slot), InW D (wM cy a) A s.heap H locs S_10 → lv_has ls 5 [(0, .ref (a 0)), (2, .int x2_3), (3, .int x3_6)] → W p l e (rmN 2) s m args below meth c H locs 0 0 (QI below args s D (wM cy a) A r S') (F0 m 120 ls [])) ?_ ?_ h
        · intro S_10 h H locs ls hw hl
          obtain ⟨x3_12, ex3_12⟩ : ∃ z : Int32, z = x3_6 + (1 : Int32) := ⟨_, rfl⟩
          have h := nm_at ex3_12 h
          refine lv_iinc (v := x3_12) (lv' := [(3, .int x3_12), (0, .ref (a 0)), (2, .int x2_3)]) hx hb dX7_pass_120 hl (k := 2) rfl (by rw [ex3_12]; rfl) (by decide) rfl (fun ls hl => ?_)
          refine lv_goto (tgt := 86) hx hb dX7_pass_123 (by decide) ?_
          exact hag_8 x3_12 S_10 h H locs ls hw (lv_sub hl [1, 2, 0] rfl)
        · intro j_11 hj_11 h
          refine lv_icmp_ne (tgt := 120) hx hb dX7_pass_103 (by decide) (fun c_13 => ?_) (fun c_13 => ?_)
          · have h := if_at_f c_13 h
            exact hj_11 S_7 h H locs ls hw (lv_sub hl [0, 1, 2] rfl)
          · have h := if_at_t c_13 h
            refine lv_aload_n hx hb dX7_pass_106 rfl (lv_at hl 0 rfl) ?_
            refine gf (v := .ref (a 6)) hC hw in_X7 0 5 10 (cM_0 cy a S_7) rfl (by decide) lf_RX7_25 rfl rfl dX7_pass_107 ?_
            refine lv_iload_n hx hb dX7_pass_110 rfl (lv_at hl 2 rfl) ?_
            obtain ⟨hi, h⟩ := gd_at h
            refine ga hC hw 6 (cM_6 cy a S_7) hi dX7_pass_111 ?_
            refine lv_if_eq (tgt := 120) hx hb dX7_pass_112 (by decide) (fun c_14 => ?_) (fun c_14 => ?_)
            · have h := if_at_t c_14 h
              exact hj_11 S_7 h H locs ls hw (lv_sub hl [0, 1, 2] rfl)
            · have h := if_at_f c_14 h
              refine lv_aload_n hx hb dX7_pass_115 rfl (lv_at hl 0 rfl) ?_
              refine lv_iload_n hx hb dX7_pass_116 rfl (lv_at hl 2 rfl) ?_
              obtain ⟨S_16, hc_15, h⟩ := bd_at h
              refine caVV (As := [.int x3_6]) (rest := []) hC hw hl.1 lm_RX7_140 li_RX7 lk_yX7_spread li_yX7_spread ll_yX7_spread 0 5 (cM_0 cy a S_7) rfl 1 rfl hd_X7_spread (by decide) (by decide) (Nat.le_of_ble_eq_true rfl) dX7_pass_117 (k_X7_spread l D cy a fu x3_6 S_7 _ hc_15) (fun H locs hw => ?_)
              exact hj_11 S_16 h H locs ls hw (lv_sub hl [0, 1, 2] rfl)
    · intro j_5 hj_5 h
      refine lq3_ok (fun (x2_17 : Int32) (x3_18 : Int32) (S_19 : ST) => ∀ (H : Heap) (locs : List Loc) (ls : Array Slot), InW D (wM cy a) A s.heap H locs S_19 → lv_has ls 5 [(0, .ref (a 0)), (1, .int x1), (2, .int x2_17), (3, .int x3_18)] → W p l e (rmN 2) s m args below meth c H locs 0 0 (QI below args s D (wM cy a) A r S') (F0 m 41 ls [])) ?_ fu (0 : Int32) (0 : Int32) S_1 h H locs ls hw (lv_sub hl [2, 3, 1, 0] rfl)
      intro ag_20 hag_20 x2_17 x3_18 S_19 h H locs ls hw hl
      unfold m_X7_pass_L41 at h
      refine lv_iload_n hx hb dX7_pass_41 rfl (lv_at hl 3 rfl) ?_
      refine lv_aload_n hx hb dX7_pass_42 rfl (lv_at hl 0 rfl) ?_
      refine gf (v := .int (stI S_19 4)) hC hw in_X7 0 5 6 (cM_0 cy a S_19) rfl (by decide) lf_RX7_81 rfl rfl dX7_pass_43 ?_
      refine lv_icmp_ge (tgt := 84) hx hb dX7_pass_46 (by decide) (fun c_21 => ?_) (fun c_21 => ?_)
      · have h := if_at_t c_21 h
        exact hj_5 x2_17 S_19 h H locs ls hw (lv_sub hl [0, 2] rfl)
      · have h := if_at_f c_21 h
        refine lv_aload_n hx hb dX7_pass_49 rfl (lv_at hl 0 rfl) ?_
        refine lv_iload_n hx hb dX7_pass_50 rfl (lv_at hl 3 rfl) ?_
        refine lv_iload_n hx hb dX7_pass_51 rfl (lv_at hl 1 rfl) ?_
        obtain ⟨v_23, S_24, hc_22, h⟩ := bd2_at h
        refine caVI (As := [.int x3_18, .int x1]) (rest := []) hC hw hl.1 lm_RX7_137 li_RX7 lk_yX7_burnsOf li_yX7_burnsOf ll_yX7_burnsOf 0 5 (cM_0 cy a S_19) rfl 2 rfl hd_X7_burnsOf (by decide) (by decide) (Nat.le_of_ble_eq_true rfl) dX7_pass_52 (k_X7_burnsOf l D cy a fu x3_18 x1 S_19 _ _ hc_22) (fun H locs hw => ?_)
        refine lv_istore (lv' := [(4, .int v_23), (0, .ref (a 0)), (1, .int x1), (2, .int x2_17), (3, .int x3_18)]) hx hb dX7_pass_55 hl (by decide) rfl (fun ls hl => ?_)
        refine lv_aload_n hx hb dX7_pass_57 rfl (lv_at hl 1 rfl) ?_
        refine gf (v := .ref (a 6)) hC hw in_X7 0 5 10 (cM_0 cy a S_24) rfl (by decide) lf_RX7_25 rfl rfl dX7_pass_58 ?_
        refine lv_iload_n hx hb dX7_pass_61 rfl (lv_at hl 4 rfl) ?_
        refine lv_dup2_11 hx hb dX7_pass_62 rfl rfl ?_
        obtain ⟨hi, h⟩ := gd_at h
        refine ga hC hw 6 (cM_6 cy a S_24) hi dX7_pass_63 ?_
        refine lv_iload hx hb dX7_pass_64 (lv_at hl 0 rfl) ?_
        refine lv_iconst (v := -1) hx hb dX7_pass_66 (by decide) ?_
        refine lv_ixor hx hb dX7_pass_67 ?_
        refine lv_iand hx hb dX7_pass_68 ?_
        obtain ⟨hi, h⟩ := gd_at h
        refine pa hC hw 6 (cM_6 cy a S_24) hi (rM_6 cy a S_24) dX7_pass_69 (fun H locs hw => ?_)
        obtain ⟨S_25, hw, h⟩ := nmw (P := fun z => InW D (wM cy a) A s.heap H locs z) hw h
        refine lv_iload_n hx hb dX7_pass_70 rfl (lv_at hl 3 rfl) ?_
        refine lv_iload hx hb dX7_pass_71 (lv_at hl 0 rfl) ?_
        obtain ⟨v_27, hc_26, h⟩ := bd_at h
        refine caSI (As := [.int v_23]) (rest := [.int x2_17]) hC hw hl.1 lm_RX7_123 li_RX7 lk_yX7_ones ls_yX7_ones 1 rfl hd_X7_ones (by decide) (by decide) (Nat.le_of_ble_eq_true rfl) dX7_pass_73 (k_X7_ones l D cy (wM cy a) S_25 fu v_23 _ hc_26) (fun H locs hw => ?_)
        refine lv_iadd hx hb dX7_pass_76 ?_
        refine lv_topi (fun x2_28 ex2_28 => ?_)
        have h := nm_at ex2_28 h
        refine lv_istore_n (lv' := [(2, .int x2_28), (4, .int v_23), (0, .ref (a 0)), (1, .int x1), (3, .int x3_18)]) hx hb dX7_pass_77 rfl hl (by decide) rfl (fun ls hl => ?_)
        obtain ⟨x3_29, ex3_29⟩ : ∃ z : Int32, z = x3_18 + (1 : Int32) := ⟨_, rfl⟩
        have h := nm_at ex3_29 h
        refine lv_iinc (v := x3_29) (lv' := [(3, .int x3_29), (2, .int x2_28), (4, .int v_23), (0, .ref (a 0)), (1, .int x1)]) hx hb dX7_pass_78 hl (k := 4) rfl (by rw [ex3_29]; rfl) (by decide) rfl (fun ls hl => ?_)
        refine lv_goto (tgt := 41) hx hb dX7_pass_81 (by decide) ?_
        exact hag_20 x2_28 x3_29 S_25 h H locs ls hw (lv_sub hl [3, 4, 1, 0] rfl)
  · intro j_2 hj_2 h
    refine lq2_ok (fun (x2_30 : Int32) (S_31 : ST) => ∀ (H : Heap) (locs : List Loc) (ls : Array Slot), InW D (wM cy a) A s.heap H locs S_31 → lv_has ls 5 [(0, .ref (a 0)), (1, .int x1), (2, .int x2_30)] → W p l e (rmN 2) s m args below meth c H locs 0 0 (QI below args s D (wM cy a) A r S') (F0 m 2 ls [])) ?_ fu (0 : Int32) S h H locs ls hw (lv_sub hl [1, 2, 0] rfl)
    intro ag_32 hag_32 x2_30 S_31 h H locs ls hw hl
    unfold m_X7_pass_L2 at h
    refine lv_iload_n hx hb dX7_pass_2 rfl (lv_at hl 2 rfl) ?_
    refine lv_iconst (v := 5) hx hb dX7_pass_3 (by decide) ?_
    refine lv_icmp_ge (tgt := 37) hx hb dX7_pass_4 (by decide) (fun c_33 => ?_) (fun c_33 => ?_)
    · have h := if_at_t c_33 h
      exact hj_2 S_31 h H locs ls hw (lv_sub hl [0, 1] rfl)
    · have h := if_at_f c_33 h
      refine lv_aload_n hx hb dX7_pass_7 rfl (lv_at hl 0 rfl) ?_
      refine gf (v := .ref (a 8)) hC hw in_X7 0 5 12 (cM_0 cy a S_31) rfl (by decide) lf_RX7_31 rfl rfl dX7_pass_8 ?_
      refine lv_iload_n hx hb dX7_pass_11 rfl (lv_at hl 2 rfl) ?_
      refine lv_iload_n hx hb dX7_pass_12 rfl (lv_at hl 2 rfl) ?_
      refine lv_aload_n hx hb dX7_pass_13 rfl (lv_at hl 0 rfl) ?_
      refine gf (v := .int (stI S_31 4)) hC hw in_X7 0 5 6 (cM_0 cy a S_31) rfl (by decide) lf_RX7_81 rfl rfl dX7_pass_14 ?_
      refine jn1_ok (fun (v_34 : Int32) => ∀ (H : Heap) (locs : List Loc) (ls : Array Slot), InW D (wM cy a) A s.heap H locs S_31 → lv_has ls 5 [(0, .ref (a 0)), (1, .int x1), (2, .int x2_30)] → W p l e (rmN 2) s m args below meth c H locs 0 0 (QI below args s D (wM cy a) A r S') (F0 m 30 ls [.int v_34, .int x2_30, .ref (a 8)])) ?_ ?_ h
      · intro v_34 h H locs ls hw hl
        obtain ⟨hi, h⟩ := gd_at h
        refine pa hC hw 8 (cM_8 cy a S_31) hi (rM_8 cy a S_31) dX7_pass_30 (fun H locs hw => ?_)
        obtain ⟨S_36, hw, h⟩ := nmw (P := fun z => InW D (wM cy a) A s.heap H locs z) hw h
        obtain ⟨x2_37, ex2_37⟩ : ∃ z : Int32, z = x2_30 + (1 : Int32) := ⟨_, rfl⟩
        have h := nm_at ex2_37 h
        refine lv_iinc (v := x2_37) (lv' := [(2, .int x2_37), (0, .ref (a 0)), (1, .int x1)]) hx hb dX7_pass_31 hl (k := 2) rfl (by rw [ex2_37]; rfl) (by decide) rfl (fun ls hl => ?_)
        refine lv_goto (tgt := 2) hx hb dX7_pass_34 (by decide) ?_
        exact hag_32 x2_37 S_36 h H locs ls hw (lv_sub hl [1, 2, 0] rfl)
      · intro j_35 hj_35 h
        refine lv_icmp_ge (tgt := 29) hx hb dX7_pass_17 (by decide) (fun c_38 => ?_) (fun c_38 => ?_)
        · have h := if_at_t c_38 h
          refine lv_iconst (v := 0) hx hb dX7_pass_29 (by decide) ?_
          exact hj_35 (0 : Int32) h H locs ls hw (lv_sub hl [0, 1, 2] rfl)
        · have h := if_at_f c_38 h
          refine lv_aload_n hx hb dX7_pass_20 rfl (lv_at hl 0 rfl) ?_
          refine gf (v := .ref (a 6)) hC hw in_X7 0 5 10 (cM_0 cy a S_31) rfl (by decide) lf_RX7_25 rfl rfl dX7_pass_21 ?_
          refine lv_iload_n hx hb dX7_pass_24 rfl (lv_at hl 2 rfl) ?_
          obtain ⟨hi, h⟩ := gd_at h
          refine ga hC hw 6 (cM_6 cy a S_31) hi dX7_pass_25 ?_
          refine lv_goto (tgt := 30) hx hb dX7_pass_26 (by decide) ?_
          exact hj_35 ((rdA S_31 5 x2_30)) h H locs ls hw (lv_sub hl [0, 1, 2] rfl)
def m_X7_burn_L32 (fu : Nat) (v_10 : Int32) (j_13 : ST → Option (Int32 × ST)) (ag_17 : Int32 → ST → Option (Int32 × ST)) (x3_15 : Int32) (S_16 : ST) : Option (Int32 × ST) :=
  (if (5 : Int32) ≤ x3_15 then j_13 S_16 else gd (inB x3_15 5) (gd (inB x3_15 5) (nm (wrA S_16 3 x3_15 ((rdA S_16 5 x3_15))) (fun S_19 => gd (inB x3_15 5) (gd (inB x3_15 5) (nm (wrA S_19 4 x3_15 ((rdA S_19 6 x3_15))) (fun S_20 => nm (x3_15 + (1 : Int32)) (fun x3_21 => ag_17 x3_21 S_20))))))))
def m_X7_burn (fu : Nat) (x1 : Int32) (S : ST) : Option (Int32 × ST) :=
  bd (m_X7_isLetter fu x1) (fun v_2 => (if v_2 = (0 : Int32) then some ((-101 : Int32), S) else bd (m_X7_lacks fu S) (fun v_5 => (if v_5 = (0 : Int32) then bd (m_X7_asItIs fu S) (fun S_8 => bd2 (m_X7_pass fu x1 S_8) (fun v_10 S_11 => jn1 (fun (S_12 : ST) => nm (puI S_12 2 (((stI S_12 2) + (1 : Int32)))) (fun S_14 => some (v_10, S_14))) (fun j_13 => lq2 (m_X7_burn_L32 fu v_10 j_13) fu (0 : Int32) S_11))) else some ((-103 : Int32), S)))))
set_option maxRecDepth 100000 in
set_option maxHeartbeats 4000000 in
theorem k_X7_burn (l : Launch) (D : va_G) (cy : ClassId) (a : Nat → Nat) (fu : Nat) (x1 : Int32) (S : ST) (r : Int32) (S' : ST) (h : m_X7_burn fu x1 S = some (r, S')) : CtI l yX7_burn cX7_burn 4 (some .int) 3 [.ref (a 0), .int x1] D cy (wM cy a) S r S' := by
  refine CtI_of (by decide) (Nat.le_of_ble_eq_true rfl) ?_
  intro p e s m args below meth c A ls hC hr hk hw hl
  have hC : Cx p s m c RX7 cX7_burn 4 args D cy := hC
  have hx := hC.1
  have hb := hC.2.1
  have hl : lv_has ls 4 [(0, .ref (a 0)), (1, .int x1)] := hl
  obtain ⟨H, eH⟩ : ∃ z : Heap, z = s.heap := ⟨_, rfl⟩
  obtain ⟨locs, elocs⟩ : ∃ z : List Loc, z = [] := ⟨_, rfl⟩
  have hw : InW D (wM cy a) A s.heap H locs S := by rw [eH, elocs]; exact hw
  suffices hsu : W p l e (rmN 3) s m args below meth c H locs 0 0 (QI below args s D (wM cy a) A r S') (F0 m 0 ls []) by rw [eH, elocs] at hsu; exact hsu
  unfold m_X7_burn at h
  refine lv_iload_n hx hb dX7_burn_0 rfl (lv_at hl 1 rfl) ?_
  obtain ⟨v_2, hc_1, h⟩ := bd_at h
  refine caSI (As := [.int x1]) (rest := []) hC hw hl.1 lm_RX7_99 li_RX7 lk_yX7_isLetter ls_yX7_isLetter 1 rfl hd_X7_isLetter (by decide) (by decide) (Nat.le_of_ble_eq_true rfl) dX7_burn_1 (k_X7_isLetter l D cy (wM cy a) S fu x1 _ hc_1) (fun H locs hw => ?_)
  refine lv_if_ne (tgt := 10) hx hb dX7_burn_4 (by decide) (fun c_3 => ?_) (fun c_3 => ?_)
  · have h := if_at_f c_3 h
    refine lv_aload_n hx hb dX7_burn_10 rfl (lv_at hl 0 rfl) ?_
    obtain ⟨v_5, hc_4, h⟩ := bd_at h
    refine caVI (As := []) (rest := []) hC hw hl.1 lm_RX7_109 li_RX7 lk_yX7_lacks li_yX7_lacks ll_yX7_lacks 0 5 (cM_0 cy a S) rfl 0 rfl hd_X7_lacks (by decide) (by decide) (Nat.le_of_ble_eq_true rfl) dX7_burn_11 (k_X7_lacks l D cy a fu S _ hc_4) (fun H locs hw => ?_)
    refine lv_if_eq (tgt := 20) hx hb dX7_burn_14 (by decide) (fun c_6 => ?_) (fun c_6 => ?_)
    · have h := if_at_t c_6 h
      refine lv_aload_n hx hb dX7_burn_20 rfl (lv_at hl 0 rfl) ?_
      obtain ⟨S_8, hc_7, h⟩ := bd_at h
      refine caVV (As := []) (rest := []) hC hw hl.1 lm_RX7_144 li_RX7 lk_yX7_asItIs li_yX7_asItIs ll_yX7_asItIs 0 5 (cM_0 cy a S) rfl 0 rfl hd_X7_asItIs (by decide) (by decide) (Nat.le_of_ble_eq_true rfl) dX7_burn_21 (k_X7_asItIs l D cy a fu S _ hc_7) (fun H locs hw => ?_)
      refine lv_aload_n hx hb dX7_burn_24 rfl (lv_at hl 0 rfl) ?_
      refine lv_iload_n hx hb dX7_burn_25 rfl (lv_at hl 1 rfl) ?_
      obtain ⟨v_10, S_11, hc_9, h⟩ := bd2_at h
      refine caVI (As := [.int x1]) (rest := []) hC hw hl.1 lm_RX7_147 li_RX7 lk_yX7_pass li_yX7_pass ll_yX7_pass 0 5 (cM_0 cy a S_8) rfl 1 rfl hd_X7_pass (by decide) (by decide) (Nat.le_of_ble_eq_true rfl) dX7_burn_26 (k_X7_pass l D cy a fu x1 S_8 _ _ hc_9) (fun H locs hw => ?_)
      refine lv_istore_n (lv' := [(2, .int v_10), (0, .ref (a 0)), (1, .int x1)]) hx hb dX7_burn_29 rfl hl (by decide) rfl (fun ls hl => ?_)
      refine lv_iconst (v := 0) hx hb dX7_burn_30 (by decide) ?_
      refine lv_istore_n (lv' := [(3, .int (0 : Int32)), (2, .int v_10), (0, .ref (a 0)), (1, .int x1)]) hx hb dX7_burn_31 rfl hl (by decide) rfl (fun ls hl => ?_)
      refine jn1_ok (fun (S_12 : ST) => ∀ (H : Heap) (locs : List Loc) (ls : Array Slot), InW D (wM cy a) A s.heap H locs S_12 → lv_has ls 4 [(0, .ref (a 0)), (2, .int v_10)] → W p l e (rmN 3) s m args below meth c H locs 0 0 (QI below args s D (wM cy a) A r S') (F0 m 67 ls [])) ?_ ?_ h
      · intro S_12 h H locs ls hw hl
        refine lv_aload_n hx hb dX7_burn_67 rfl (lv_at hl 0 rfl) ?_
        refine lv_dup hx hb dX7_burn_68 rfl ?_
        refine gf (v := .int (stI S_12 2)) hC hw in_X7 0 5 3 (cM_0 cy a S_12) rfl (by decide) lf_RX7_84 rfl rfl dX7_burn_69 ?_
        refine lv_iconst (v := 1) hx hb dX7_burn_72 (by decide) ?_
        refine lv_iadd hx hb dX7_burn_73 ?_
        refine pf (ty := .int) (v := .int (((stI S_12 2) + (1 : Int32)))) hC hw in_X7 tyX7_ok nmX7 0 5 3 (cM_0 cy a S_12) rfl (by decide) lf_RX7_84 rfl rfl (by decide +kernel) rfl rfl (Nat.le_of_ble_eq_true rfl) (sM_3 cy a S_12 (((stI S_12 2) + (1 : Int32)))) dX7_burn_74 (fun H locs hw => ?_)
        obtain ⟨S_14, hw, h⟩ := nmw (P := fun z => InW D (wM cy a) A s.heap H locs z) hw h
        refine lv_iload_n hx hb dX7_burn_77 rfl (lv_at hl 1 rfl) ?_
        exact rtI hC hr hk hw (so_at2 h).1 (so_at2 h).2 dX7_burn_78
      · intro j_13 hj_13 h
        refine lq2_ok (fun (x3_15 : Int32) (S_16 : ST) => ∀ (H : Heap) (locs : List Loc) (ls : Array Slot), InW D (wM cy a) A s.heap H locs S_16 → lv_has ls 4 [(0, .ref (a 0)), (2, .int v_10), (3, .int x3_15)] → W p l e (rmN 3) s m args below meth c H locs 0 0 (QI below args s D (wM cy a) A r S') (F0 m 32 ls [])) ?_ fu (0 : Int32) S_11 h H locs ls hw (lv_sub hl [2, 1, 0] rfl)
        intro ag_17 hag_17 x3_15 S_16 h H locs ls hw hl
        unfold m_X7_burn_L32 at h
        refine lv_iload_n hx hb dX7_burn_32 rfl (lv_at hl 2 rfl) ?_
        refine lv_iconst (v := 5) hx hb dX7_burn_33 (by decide) ?_
        refine lv_icmp_ge (tgt := 67) hx hb dX7_burn_34 (by decide) (fun c_18 => ?_) (fun c_18 => ?_)
        · have h := if_at_t c_18 h
          exact hj_13 S_16 h H locs ls hw (lv_sub hl [0, 1] rfl)
        · have h := if_at_f c_18 h
          refine lv_aload_n hx hb dX7_burn_37 rfl (lv_at hl 0 rfl) ?_
          refine gf (v := .ref (a 4)) hC hw in_X7 0 5 8 (cM_0 cy a S_16) rfl (by decide) lf_RX7_19 rfl rfl dX7_burn_38 ?_
          refine lv_iload_n hx hb dX7_burn_41 rfl (lv_at hl 2 rfl) ?_
          refine lv_aload_n hx hb dX7_burn_42 rfl (lv_at hl 0 rfl) ?_
          refine gf (v := .ref (a 6)) hC hw in_X7 0 5 10 (cM_0 cy a S_16) rfl (by decide) lf_RX7_25 rfl rfl dX7_burn_43 ?_
          refine lv_iload_n hx hb dX7_burn_46 rfl (lv_at hl 2 rfl) ?_
          obtain ⟨hi, h⟩ := gd_at h
          refine ga hC hw 6 (cM_6 cy a S_16) hi dX7_burn_47 ?_
          obtain ⟨hi, h⟩ := gd_at h
          refine pa hC hw 4 (cM_4 cy a S_16) hi (rM_4 cy a S_16) dX7_burn_48 (fun H locs hw => ?_)
          obtain ⟨S_19, hw, h⟩ := nmw (P := fun z => InW D (wM cy a) A s.heap H locs z) hw h
          refine lv_aload_n hx hb dX7_burn_49 rfl (lv_at hl 0 rfl) ?_
          refine gf (v := .ref (a 5)) hC hw in_X7 0 5 9 (cM_0 cy a S_19) rfl (by decide) lf_RX7_22 rfl rfl dX7_burn_50 ?_
          refine lv_iload_n hx hb dX7_burn_53 rfl (lv_at hl 2 rfl) ?_
          refine lv_aload_n hx hb dX7_burn_54 rfl (lv_at hl 0 rfl) ?_
          refine gf (v := .ref (a 7)) hC hw in_X7 0 5 11 (cM_0 cy a S_19) rfl (by decide) lf_RX7_28 rfl rfl dX7_burn_55 ?_
          refine lv_iload_n hx hb dX7_burn_58 rfl (lv_at hl 2 rfl) ?_
          obtain ⟨hi, h⟩ := gd_at h
          refine ga hC hw 7 (cM_7 cy a S_19) hi dX7_burn_59 ?_
          obtain ⟨hi, h⟩ := gd_at h
          refine pa hC hw 5 (cM_5 cy a S_19) hi (rM_5 cy a S_19) dX7_burn_60 (fun H locs hw => ?_)
          obtain ⟨S_20, hw, h⟩ := nmw (P := fun z => InW D (wM cy a) A s.heap H locs z) hw h
          obtain ⟨x3_21, ex3_21⟩ : ∃ z : Int32, z = x3_15 + (1 : Int32) := ⟨_, rfl⟩
          have h := nm_at ex3_21 h
          refine lv_iinc (v := x3_21) (lv' := [(3, .int x3_21), (0, .ref (a 0)), (2, .int v_10)]) hx hb dX7_burn_61 hl (k := 2) rfl (by rw [ex3_21]; rfl) (by decide) rfl (fun ls hl => ?_)
          refine lv_goto (tgt := 32) hx hb dX7_burn_64 (by decide) ?_
          exact hag_17 x3_21 S_20 h H locs ls hw (lv_sub hl [1, 2, 0] rfl)
    · have h := if_at_f c_6 h
      refine lv_bipush (v := -103) hx hb dX7_burn_17 (by decide) ?_
      exact rtI hC hr hk hw (so_at2 h).1 (so_at2 h).2 dX7_burn_19
  · have h := if_at_t c_3 h
    refine lv_bipush (v := -101) hx hb dX7_burn_7 (by decide) ?_
    exact rtI hC hr hk hw (so_at2 h).1 (so_at2 h).2 dX7_burn_9
def m_X7_power_L4 (fu : Nat) (x0 : Int32) (x1 : Int32) (ag_3 : Int32 → Int32 → Option Int32) (x2_1 : Int32) (x3_2 : Int32) : Option Int32 :=
  (if x1 ≤ x3_2 then some x2_1 else nm ((x2_1 * x0)) (fun x2_5 => nm (x3_2 + (1 : Int32)) (fun x3_6 => ag_3 x2_5 x3_6)))
def m_X7_power (fu : Nat) (x0 : Int32) (x1 : Int32) : Option Int32 :=
  lq2 (m_X7_power_L4 fu x0 x1) fu (1 : Int32) (0 : Int32)
set_option maxRecDepth 100000 in
set_option maxHeartbeats 4000000 in
theorem k_X7_power (l : Launch) (D : va_G) (cy : ClassId) (w : ST → va_W) (S : ST) (fu : Nat) (x0 : Int32) (x1 : Int32) (r : Int32) (h : m_X7_power fu x0 x1 = some r) : CtI l yX7_power cX7_power 4 (some .int) 0 [.int x0, .int x1] D cy w S r S := by
  refine CtI_of (by decide) (Nat.le_of_ble_eq_true rfl) ?_
  intro p e s m args below meth c A ls hC hr hk hw hl
  have hC : Cx p s m c RX7 cX7_power 4 args D cy := hC
  have hx := hC.1
  have hb := hC.2.1
  have hl : lv_has ls 4 [(0, .int x0), (1, .int x1)] := hl
  obtain ⟨H, eH⟩ : ∃ z : Heap, z = s.heap := ⟨_, rfl⟩
  obtain ⟨locs, elocs⟩ : ∃ z : List Loc, z = [] := ⟨_, rfl⟩
  have hw : InW D w A s.heap H locs S := by rw [eH, elocs]; exact hw
  suffices hsu : W p l e (rmN 0) s m args below meth c H locs 0 0 (QI below args s D w A r S) (F0 m 0 ls []) by rw [eH, elocs] at hsu; exact hsu
  unfold m_X7_power at h
  refine lv_iconst (v := 1) hx hb dX7_power_0 (by decide) ?_
  refine lv_istore_n (lv' := [(2, .int (1 : Int32)), (0, .int x0), (1, .int x1)]) hx hb dX7_power_1 rfl hl (by decide) rfl (fun ls hl => ?_)
  refine lv_iconst (v := 0) hx hb dX7_power_2 (by decide) ?_
  refine lv_istore_n (lv' := [(3, .int (0 : Int32)), (2, .int (1 : Int32)), (0, .int x0), (1, .int x1)]) hx hb dX7_power_3 rfl hl (by decide) rfl (fun ls hl => ?_)
  refine lq2_ok (fun (x2_1 : Int32) (x3_2 : Int32) => ∀ (H : Heap) (locs : List Loc) (ls : Array Slot), InW D w A s.heap H locs S → lv_has ls 4 [(0, .int x0), (1, .int x1), (2, .int x2_1), (3, .int x3_2)] → W p l e (rmN 0) s m args below meth c H locs 0 0 (QI below args s D w A r S) (F0 m 4 ls [])) ?_ fu (1 : Int32) (0 : Int32) h H locs ls hw (lv_sub hl [2, 3, 1, 0] rfl)
  intro ag_3 hag_3 x2_1 x3_2 h H locs ls hw hl
  unfold m_X7_power_L4 at h
  refine lv_iload_n hx hb dX7_power_4 rfl (lv_at hl 3 rfl) ?_
  refine lv_iload_n hx hb dX7_power_5 rfl (lv_at hl 1 rfl) ?_
  refine lv_icmp_ge (tgt := 19) hx hb dX7_power_6 (by decide) (fun c_4 => ?_) (fun c_4 => ?_)
  · have h := if_at_t c_4 h
    refine lv_iload_n hx hb dX7_power_19 rfl (lv_at hl 2 rfl) ?_
    exact rtI hC hr hk hw (so_at h) rfl dX7_power_20
  · have h := if_at_f c_4 h
    refine lv_iload_n hx hb dX7_power_9 rfl (lv_at hl 2 rfl) ?_
    refine lv_iload_n hx hb dX7_power_10 rfl (lv_at hl 0 rfl) ?_
    refine lv_imul hx hb dX7_power_11 ?_
    refine lv_topi (fun x2_5 ex2_5 => ?_)
    have h := nm_at ex2_5 h
    refine lv_istore_n (lv' := [(2, .int x2_5), (0, .int x0), (1, .int x1), (3, .int x3_2)]) hx hb dX7_power_12 rfl hl (by decide) rfl (fun ls hl => ?_)
    obtain ⟨x3_6, ex3_6⟩ : ∃ z : Int32, z = x3_2 + (1 : Int32) := ⟨_, rfl⟩
    have h := nm_at ex3_6 h
    refine lv_iinc (v := x3_6) (lv' := [(3, .int x3_6), (2, .int x2_5), (0, .int x0), (1, .int x1)]) hx hb dX7_power_13 hl (k := 3) rfl (by rw [ex3_6]; rfl) (by decide) rfl (fun ls hl => ?_)
    refine lv_goto (tgt := 4) hx hb dX7_power_16 (by decide) ?_
    exact hag_3 x2_5 x3_6 h H locs ls hw (lv_sub hl [2, 3, 1, 0] rfl)
def m_X7_livesOf_L76 (fu : Nat) (x1 : Int32) (x2 : Int32) (x3_1 : Int32) (x4_2 : Int32) (x5_8 : Int32) (j_18 : ST → Option (Int32 × ST)) (ag_26 : Int32 → Int32 → ST → Option (Int32 × ST)) (x6_23 : Int32) (x7_24 : Int32) (S_25 : ST) : Option (Int32 × ST) :=
  (if x2 ≤ x7_24 then j_18 S_25 else bd2 (m_X7_pass fu ((x6_23 - x6_23 / (6 : Int32) * (6 : Int32))) S_25) (fun v_29 S_30 => nm ((x6_23 / (6 : Int32))) (fun x6_31 => nm (x7_24 + (1 : Int32)) (fun x7_32 => ag_26 x6_31 x7_32 S_30))))
def m_X7_livesOf_L26 (fu : Nat) (x1 : Int32) (x2 : Int32) (x3_1 : Int32) (x4_2 : Int32) (S_3 : ST) (j_9 : Int32 → Option (Int32 × ST)) (ag_36 : Int32 → Int32 → Int32 → Option (Int32 × ST)) (x5_33 : Int32) (x6_34 : Int32) (x7_35 : Int32) : Option (Int32 × ST) :=
  (if x2 ≤ x7_35 then j_9 x5_33 else gd (inB ((x6_34 - x6_34 / (6 : Int32) * (6 : Int32))) 6) (nm ((x5_33 * (rdA S_3 1 ((x6_34 - x6_34 / (6 : Int32) * (6 : Int32)))))) (fun x5_38 => nm ((x6_34 / (6 : Int32))) (fun x6_39 => nm (x7_35 + (1 : Int32)) (fun x7_40 => ag_36 x5_38 x6_39 x7_40)))))
def m_X7_livesOf_L5 (fu : Nat) (x1 : Int32) (x2 : Int32) (ag_4 : Int32 → Int32 → ST → Option (Int32 × ST)) (x3_1 : Int32) (x4_2 : Int32) (S_3 : ST) : Option (Int32 × ST) :=
  bd (m_X7_power fu (6 : Int32) x2) (fun v_6 => (if v_6 ≤ x4_2 then some (x3_1, S_3) else jn1 (fun (x5_8 : Int32) => jn2 (fun (x3_10 : Int32) (S_11 : ST) => nm (x4_2 + (1 : Int32)) (fun x4_13 => ag_4 x3_10 x4_13 S_11)) (fun j_12 => (if x5_8 ≤ (0 : Int32) then j_12 x3_1 S_3 else bd (m_X7_asItIs fu S_3) (fun S_16 => jn1 (fun (S_17 : ST) => gd (inB x1 5) (jn1 (fun (v_19 : Int32) => nm ((x3_1 + v_19)) (fun x3_21 => j_12 x3_21 S_17)) (fun j_20 => (if (rdA S_17 5 x1) = (0 : Int32) then j_20 (0 : Int32) else j_20 x5_8)))) (fun j_18 => lq3 (m_X7_livesOf_L76 fu x1 x2 x3_1 x4_2 x5_8 j_18) fu x4_2 (0 : Int32) S_16))))) (fun j_9 => lq3 (m_X7_livesOf_L26 fu x1 x2 x3_1 x4_2 S_3 j_9) fu (1 : Int32) x4_2 (0 : Int32))))
def m_X7_livesOf (fu : Nat) (x1 : Int32) (x2 : Int32) (S : ST) : Option (Int32 × ST) :=
  lq3 (m_X7_livesOf_L5 fu x1 x2) fu (0 : Int32) (0 : Int32) S
set_option maxRecDepth 100000 in
set_option maxHeartbeats 4000000 in
theorem k_X7_livesOf (l : Launch) (D : va_G) (cy : ClassId) (a : Nat → Nat) (fu : Nat) (x1 : Int32) (x2 : Int32) (S : ST) (r : Int32) (S' : ST) (h : m_X7_livesOf fu x1 x2 S = some (r, S')) : CtI l yX7_livesOf cX7_livesOf 9 (some .int) 3 [.ref (a 0), .int x1, .int x2] D cy (wM cy a) S r S' := by
  refine CtI_of (by decide) (Nat.le_of_ble_eq_true rfl) ?_
  intro p e s m args below meth c A ls hC hr hk hw hl
  have hC : Cx p s m c RX7 cX7_livesOf 9 args D cy := hC
  have hx := hC.1
  have hb := hC.2.1
  have hl : lv_has ls 9 [(0, .ref (a 0)), (1, .int x1), (2, .int x2)] := hl
  obtain ⟨H, eH⟩ : ∃ z : Heap, z = s.heap := ⟨_, rfl⟩
  obtain ⟨locs, elocs⟩ : ∃ z : List Loc, z = [] := ⟨_, rfl⟩
  have hw : InW D (wM cy a) A s.heap H locs S := by rw [eH, elocs]; exact hw
  suffices hsu : W p l e (rmN 3) s m args below meth c H locs 0 0 (QI below args s D (wM cy a) A r S') (F0 m 0 ls []) by rw [eH, elocs] at hsu; exact hsu
  unfold m_X7_livesOf at h
  refine lv_iconst (v := 0) hx hb dX7_livesOf_0 (by decide) ?_
  refine lv_istore_n (lv' := [(3, .int (0 : Int32)), (0, .ref (a 0)), (1, .int x1), (2, .int x2)]) hx hb dX7_livesOf_1 rfl hl (by decide) rfl (fun ls hl => ?_)
  refine lv_iconst (v := 0) hx hb dX7_livesOf_2 (by decide) ?_
  refine lv_istore (lv' := [(4, .int (0 : Int32)), (3, .int (0 : Int32)), (0, .ref (a 0)), (1, .int x1), (2, .int x2)]) hx hb dX7_livesOf_3 hl (by decide) rfl (fun ls hl => ?_)
  refine lq3_ok (fun (x3_1 : Int32) (x4_2 : Int32) (S_3 : ST) => ∀ (H : Heap) (locs : List Loc) (ls : Array Slot), InW D (wM cy a) A s.heap H locs S_3 → lv_has ls 9 [(0, .ref (a 0)), (1, .int x1), (2, .int x2), (3, .int x3_1), (4, .int x4_2)] → W p l e (rmN 3) s m args below meth c H locs 0 0 (QI below args s D (wM cy a) A r S') (F0 m 5 ls [])) ?_ fu (0 : Int32) (0 : Int32) S h H locs ls hw (lv_sub hl [2, 3, 4, 1, 0] rfl)
  intro ag_4 hag_4 x3_1 x4_2 S_3 h H locs ls hw hl
  unfold m_X7_livesOf_L5 at h
  refine lv_iload hx hb dX7_livesOf_5 (lv_at hl 4 rfl) ?_
  refine lv_bipush (v := 6) hx hb dX7_livesOf_7 (by decide) ?_
  refine lv_iload_n hx hb dX7_livesOf_9 rfl (lv_at hl 2 rfl) ?_
  obtain ⟨v_6, hc_5, h⟩ := bd_at h
  refine caSI (As := [.int (6 : Int32), .int x2]) (rest := [.int x4_2]) hC hw hl.1 lm_RX7_150 li_RX7 lk_yX7_power ls_yX7_power 2 rfl hd_X7_power (by decide) (by decide) (Nat.le_of_ble_eq_true rfl) dX7_livesOf_10 (k_X7_power l D cy (wM cy a) S_3 fu (6 : Int32) x2 _ hc_5) (fun H locs hw => ?_)
  refine lv_icmp_ge (tgt := 130) hx hb dX7_livesOf_13 (by decide) (fun c_7 => ?_) (fun c_7 => ?_)
  · have h := if_at_t c_7 h
    refine lv_iload_n hx hb dX7_livesOf_130 rfl (lv_at hl 3 rfl) ?_
    exact rtI hC hr hk hw (so_at2 h).1 (so_at2 h).2 dX7_livesOf_131
  · have h := if_at_f c_7 h
    refine lv_iconst (v := 1) hx hb dX7_livesOf_16 (by decide) ?_
    refine lv_istore (lv' := [(5, .int (1 : Int32)), (0, .ref (a 0)), (1, .int x1), (2, .int x2), (3, .int x3_1), (4, .int x4_2)]) hx hb dX7_livesOf_17 hl (by decide) rfl (fun ls hl => ?_)
    refine lv_iload hx hb dX7_livesOf_19 (lv_at hl 5 rfl) ?_
    refine lv_istore (lv' := [(6, .int x4_2), (5, .int (1 : Int32)), (0, .ref (a 0)), (1, .int x1), (2, .int x2), (3, .int x3_1), (4, .int x4_2)]) hx hb dX7_livesOf_21 hl (by decide) rfl (fun ls hl => ?_)
    refine lv_iconst (v := 0) hx hb dX7_livesOf_23 (by decide) ?_
    refine lv_istore (lv' := [(7, .int (0 : Int32)), (6, .int x4_2), (5, .int (1 : Int32)), (0, .ref (a 0)), (1, .int x1), (2, .int x2), (3, .int x3_1), (4, .int x4_2)]) hx hb dX7_livesOf_24 hl (by decide) rfl (fun ls hl => ?_)
    refine jn1_ok (fun (x5_8 : Int32) => ∀ (H : Heap) (locs : List Loc) (ls : Array Slot), InW D (wM cy a) A s.heap H locs S_3 → lv_has ls 9 [(0, .ref (a 0)), (1, .int x1), (2, .int x2), (3, .int x3_1), (4, .int x4_2), (5, .int x5_8)] → W p l e (rmN 3) s m args below meth c H locs 0 0 (QI below args s D (wM cy a) A r S') (F0 m 60 ls [])) ?_ ?_ h
    · intro x5_8 h H locs ls hw hl
      refine lv_iload hx hb dX7_livesOf_60 (lv_at hl 5 rfl) ?_
      refine jn2_ok (fun (x3_10 : Int32) (S_11 : ST) => ∀ (H : Heap) (locs : List Loc) (ls : Array Slot), InW D (wM cy a) A s.heap H locs S_11 → lv_has ls 9 [(0, .ref (a 0)), (1, .int x1), (2, .int x2), (3, .int x3_10), (4, .int x4_2)] → W p l e (rmN 3) s m args below meth c H locs 0 0 (QI below args s D (wM cy a) A r S') (F0 m 124 ls [])) ?_ ?_ h
      · intro x3_10 S_11 h H locs ls hw hl
        obtain ⟨x4_13, ex4_13⟩ : ∃ z : Int32, z = x4_2 + (1 : Int32) := ⟨_, rfl⟩
        have h := nm_at ex4_13 h
        refine lv_iinc (v := x4_13) (lv' := [(4, .int x4_13), (0, .ref (a 0)), (1, .int x1), (2, .int x2), (3, .int x3_10)]) hx hb dX7_livesOf_124 hl (k := 4) rfl (by rw [ex4_13]; rfl) (by decide) rfl (fun ls hl => ?_)
        refine lv_goto (tgt := 5) hx hb dX7_livesOf_127 (by decide) ?_
        exact hag_4 x3_10 x4_13 S_11 h H locs ls hw (lv_sub hl [1, 2, 3, 4, 0] rfl)
      · intro j_12 hj_12 h
        refine lv_if_le (tgt := 124) hx hb dX7_livesOf_62 (by decide) (fun c_14 => ?_) (fun c_14 => ?_)
        · have h := if_at_t c_14 h
          exact hj_12 x3_1 S_3 h H locs ls hw (lv_sub hl [0, 1, 2, 3, 4] rfl)
        · have h := if_at_f c_14 h
          refine lv_aload_n hx hb dX7_livesOf_65 rfl (lv_at hl 0 rfl) ?_
          obtain ⟨S_16, hc_15, h⟩ := bd_at h
          refine caVV (As := []) (rest := []) hC hw hl.1 lm_RX7_144 li_RX7 lk_yX7_asItIs li_yX7_asItIs ll_yX7_asItIs 0 5 (cM_0 cy a S_3) rfl 0 rfl hd_X7_asItIs (by decide) (by decide) (Nat.le_of_ble_eq_true rfl) dX7_livesOf_66 (k_X7_asItIs l D cy a fu S_3 _ hc_15) (fun H locs hw => ?_)
          refine lv_iload hx hb dX7_livesOf_69 (lv_at hl 4 rfl) ?_
          refine lv_istore (lv' := [(6, .int x4_2), (0, .ref (a 0)), (1, .int x1), (2, .int x2), (3, .int x3_1), (4, .int x4_2), (5, .int x5_8)]) hx hb dX7_livesOf_71 hl (by decide) rfl (fun ls hl => ?_)
          refine lv_iconst (v := 0) hx hb dX7_livesOf_73 (by decide) ?_
          refine lv_istore (lv' := [(7, .int (0 : Int32)), (6, .int x4_2), (0, .ref (a 0)), (1, .int x1), (2, .int x2), (3, .int x3_1), (4, .int x4_2), (5, .int x5_8)]) hx hb dX7_livesOf_74 hl (by decide) rfl (fun ls hl => ?_)
          refine jn1_ok (fun (S_17 : ST) => ∀ (H : Heap) (locs : List Loc) (ls : Array Slot), InW D (wM cy a) A s.heap H locs S_17 → lv_has ls 9 [(0, .ref (a 0)), (1, .int x1), (2, .int x2), (3, .int x3_1), (4, .int x4_2), (5, .int x5_8)] → W p l e (rmN 3) s m args below meth c H locs 0 0 (QI below args s D (wM cy a) A r S') (F0 m 106 ls [])) ?_ ?_ h
          · intro S_17 h H locs ls hw hl
            refine lv_iload_n hx hb dX7_livesOf_106 rfl (lv_at hl 3 rfl) ?_
            refine lv_aload_n hx hb dX7_livesOf_107 rfl (lv_at hl 0 rfl) ?_
            refine gf (v := .ref (a 6)) hC hw in_X7 0 5 10 (cM_0 cy a S_17) rfl (by decide) lf_RX7_25 rfl rfl dX7_livesOf_108 ?_
            refine lv_iload_n hx hb dX7_livesOf_111 rfl (lv_at hl 1 rfl) ?_
            obtain ⟨hi, h⟩ := gd_at h
            refine ga hC hw 6 (cM_6 cy a S_17) hi dX7_livesOf_112 ?_
            refine jn1_ok (fun (v_19 : Int32) => ∀ (H : Heap) (locs : List Loc) (ls : Array Slot), InW D (wM cy a) A s.heap H locs S_17 → lv_has ls 9 [(0, .ref (a 0)), (1, .int x1), (2, .int x2), (4, .int x4_2)] → W p l e (rmN 3) s m args below meth c H locs 0 0 (QI below args s D (wM cy a) A r S') (F0 m 122 ls [.int v_19, .int x3_1])) ?_ ?_ h
            · intro v_19 h H locs ls hw hl
              refine lv_iadd hx hb dX7_livesOf_122 ?_
              refine lv_topi (fun x3_21 ex3_21 => ?_)
              have h := nm_at ex3_21 h
              refine lv_istore_n (lv' := [(3, .int x3_21), (0, .ref (a 0)), (1, .int x1), (2, .int x2), (4, .int x4_2)]) hx hb dX7_livesOf_123 rfl hl (by decide) rfl (fun ls hl => ?_)
              exact hj_12 x3_21 S_17 h H locs ls hw (lv_sub hl [1, 2, 3, 0, 4] rfl)
            · intro j_20 hj_20 h
              refine lv_if_eq (tgt := 121) hx hb dX7_livesOf_113 (by decide) (fun c_22 => ?_) (fun c_22 => ?_)
              · have h := if_at_t c_22 h
                refine lv_iconst (v := 0) hx hb dX7_livesOf_121 (by decide) ?_
                exact hj_20 (0 : Int32) h H locs ls hw (lv_sub hl [0, 1, 2, 4] rfl)
              · have h := if_at_f c_22 h
                refine lv_iload hx hb dX7_livesOf_116 (lv_at hl 5 rfl) ?_
                refine lv_goto (tgt := 122) hx hb dX7_livesOf_118 (by decide) ?_
                exact hj_20 x5_8 h H locs ls hw (lv_sub hl [0, 1, 2, 4] rfl)
          · intro j_18 hj_18 h
            refine lq3_ok (fun (x6_23 : Int32) (x7_24 : Int32) (S_25 : ST) => ∀ (H : Heap) (locs : List Loc) (ls : Array Slot), InW D (wM cy a) A s.heap H locs S_25 → lv_has ls 9 [(0, .ref (a 0)), (1, .int x1), (2, .int x2), (3, .int x3_1), (4, .int x4_2), (5, .int x5_8), (6, .int x6_23), (7, .int x7_24)] → W p l e (rmN 3) s m args below meth c H locs 0 0 (QI below args s D (wM cy a) A r S') (F0 m 76 ls [])) ?_ fu x4_2 (0 : Int32) S_16 h H locs ls hw (lv_sub hl [2, 3, 4, 5, 6, 7, 1, 0] rfl)
            intro ag_26 hag_26 x6_23 x7_24 S_25 h H locs ls hw hl
            unfold m_X7_livesOf_L76 at h
            refine lv_iload hx hb dX7_livesOf_76 (lv_at hl 7 rfl) ?_
            refine lv_iload_n hx hb dX7_livesOf_78 rfl (lv_at hl 2 rfl) ?_
            refine lv_icmp_ge (tgt := 106) hx hb dX7_livesOf_79 (by decide) (fun c_27 => ?_) (fun c_27 => ?_)
            · have h := if_at_t c_27 h
              exact hj_18 S_25 h H locs ls hw (lv_sub hl [0, 1, 2, 3, 4, 5] rfl)
            · have h := if_at_f c_27 h
              refine lv_aload_n hx hb dX7_livesOf_82 rfl (lv_at hl 0 rfl) ?_
              refine lv_iload hx hb dX7_livesOf_83 (lv_at hl 6 rfl) ?_
              refine lv_bipush (v := 6) hx hb dX7_livesOf_85 (by decide) ?_
              refine lv_irem hx hb dX7_livesOf_87 (by decide) ?_
              obtain ⟨v_29, S_30, hc_28, h⟩ := bd2_at h
              refine caVI (As := [.int (x6_23 - x6_23 / (6 : Int32) * (6 : Int32))]) (rest := []) hC hw hl.1 lm_RX7_147 li_RX7 lk_yX7_pass li_yX7_pass ll_yX7_pass 0 5 (cM_0 cy a S_25) rfl 1 rfl hd_X7_pass (by decide) (by decide) (Nat.le_of_ble_eq_true rfl) dX7_livesOf_88 (k_X7_pass l D cy a fu ((x6_23 - x6_23 / (6 : Int32) * (6 : Int32))) S_25 _ _ hc_28) (fun H locs hw => ?_)
              refine lv_istore (lv' := [(8, .int v_29), (0, .ref (a 0)), (1, .int x1), (2, .int x2), (3, .int x3_1), (4, .int x4_2), (5, .int x5_8), (6, .int x6_23), (7, .int x7_24)]) hx hb dX7_livesOf_91 hl (by decide) rfl (fun ls hl => ?_)
              refine lv_iload hx hb dX7_livesOf_93 (lv_at hl 7 rfl) ?_
              refine lv_bipush (v := 6) hx hb dX7_livesOf_95 (by decide) ?_
              refine lv_idiv hx hb dX7_livesOf_97 (by decide) ?_
              refine lv_topi (fun x6_31 ex6_31 => ?_)
              have h := nm_at ex6_31 h
              refine lv_istore (lv' := [(6, .int x6_31), (8, .int v_29), (0, .ref (a 0)), (1, .int x1), (2, .int x2), (3, .int x3_1), (4, .int x4_2), (5, .int x5_8), (7, .int x7_24)]) hx hb dX7_livesOf_98 hl (by decide) rfl (fun ls hl => ?_)
              obtain ⟨x7_32, ex7_32⟩ : ∃ z : Int32, z = x7_24 + (1 : Int32) := ⟨_, rfl⟩
              have h := nm_at ex7_32 h
              refine lv_iinc (v := x7_32) (lv' := [(7, .int x7_32), (6, .int x6_31), (8, .int v_29), (0, .ref (a 0)), (1, .int x1), (2, .int x2), (3, .int x3_1), (4, .int x4_2), (5, .int x5_8)]) hx hb dX7_livesOf_100 hl (k := 8) rfl (by rw [ex7_32]; rfl) (by decide) rfl (fun ls hl => ?_)
              refine lv_goto (tgt := 76) hx hb dX7_livesOf_103 (by decide) ?_
              exact hag_26 x6_31 x7_32 S_30 h H locs ls hw (lv_sub hl [3, 4, 5, 6, 7, 8, 1, 0] rfl)
    · intro j_9 hj_9 h
      refine lq3_ok (fun (x5_33 : Int32) (x6_34 : Int32) (x7_35 : Int32) => ∀ (H : Heap) (locs : List Loc) (ls : Array Slot), InW D (wM cy a) A s.heap H locs S_3 → lv_has ls 9 [(0, .ref (a 0)), (1, .int x1), (2, .int x2), (3, .int x3_1), (4, .int x4_2), (5, .int x5_33), (6, .int x6_34), (7, .int x7_35)] → W p l e (rmN 3) s m args below meth c H locs 0 0 (QI below args s D (wM cy a) A r S') (F0 m 26 ls [])) ?_ fu (1 : Int32) x4_2 (0 : Int32) h H locs ls hw (lv_sub hl [3, 4, 5, 6, 7, 2, 1, 0] rfl)
      intro ag_36 hag_36 x5_33 x6_34 x7_35 h H locs ls hw hl
      unfold m_X7_livesOf_L26 at h
      refine lv_iload hx hb dX7_livesOf_26 (lv_at hl 7 rfl) ?_
      refine lv_iload_n hx hb dX7_livesOf_28 rfl (lv_at hl 2 rfl) ?_
      refine lv_icmp_ge (tgt := 60) hx hb dX7_livesOf_29 (by decide) (fun c_37 => ?_) (fun c_37 => ?_)
      · have h := if_at_t c_37 h
        exact hj_9 x5_33 h H locs ls hw (lv_sub hl [0, 1, 2, 3, 4, 5] rfl)
      · have h := if_at_f c_37 h
        refine lv_iload hx hb dX7_livesOf_32 (lv_at hl 5 rfl) ?_
        refine lv_aload_n hx hb dX7_livesOf_34 rfl (lv_at hl 0 rfl) ?_
        refine gf (v := .ref (a 2)) hC hw in_X7 0 5 5 (cM_0 cy a S_3) rfl (by decide) lf_RX7_13 rfl rfl dX7_livesOf_35 ?_
        refine lv_iload hx hb dX7_livesOf_38 (lv_at hl 6 rfl) ?_
        refine lv_bipush (v := 6) hx hb dX7_livesOf_40 (by decide) ?_
        refine lv_irem hx hb dX7_livesOf_42 (by decide) ?_
        obtain ⟨hi, h⟩ := gd_at h
        refine ga hC hw 2 (cM_2 cy a S_3) hi dX7_livesOf_43 ?_
        refine lv_imul hx hb dX7_livesOf_44 ?_
        refine lv_topi (fun x5_38 ex5_38 => ?_)
        have h := nm_at ex5_38 h
        refine lv_istore (lv' := [(5, .int x5_38), (0, .ref (a 0)), (1, .int x1), (2, .int x2), (3, .int x3_1), (4, .int x4_2), (6, .int x6_34), (7, .int x7_35)]) hx hb dX7_livesOf_45 hl (by decide) rfl (fun ls hl => ?_)
        refine lv_iload hx hb dX7_livesOf_47 (lv_at hl 6 rfl) ?_
        refine lv_bipush (v := 6) hx hb dX7_livesOf_49 (by decide) ?_
        refine lv_idiv hx hb dX7_livesOf_51 (by decide) ?_
        refine lv_topi (fun x6_39 ex6_39 => ?_)
        have h := nm_at ex6_39 h
        refine lv_istore (lv' := [(6, .int x6_39), (5, .int x5_38), (0, .ref (a 0)), (1, .int x1), (2, .int x2), (3, .int x3_1), (4, .int x4_2), (7, .int x7_35)]) hx hb dX7_livesOf_52 hl (by decide) rfl (fun ls hl => ?_)
        obtain ⟨x7_40, ex7_40⟩ : ∃ z : Int32, z = x7_35 + (1 : Int32) := ⟨_, rfl⟩
        have h := nm_at ex7_40 h
        refine lv_iinc (v := x7_40) (lv' := [(7, .int x7_40), (6, .int x6_39), (5, .int x5_38), (0, .ref (a 0)), (1, .int x1), (2, .int x2), (3, .int x3_1), (4, .int x4_2)]) hx hb dX7_livesOf_54 hl (k := 7) rfl (by rw [ex7_40]; rfl) (by decide) rfl (fun ls hl => ?_)
        refine lv_goto (tgt := 26) hx hb dX7_livesOf_57 (by decide) ?_
        exact hag_36 x5_38 x6_39 x7_40 h H locs ls hw (lv_sub hl [3, 4, 5, 6, 7, 2, 1, 0] rfl)
def m_X7_term_L5 (fu : Nat) (x0 : Int32) (x1 : Int32) (x2 : Int32) (j_2 : Int32 → Option Int32) (ag_6 : Int32 → Int32 → Option Int32) (x3_4 : Int32) (x4_5 : Int32) : Option Int32 :=
  (if x3_4 = (0 : Int32) then j_2 x4_5 else gd (decide (¬ x3_4 = 0)) (nm ((x4_5 - x4_5 / x3_4 * x3_4)) (fun x5_8 => ag_6 x5_8 x3_4)))
def m_X7_term (fu : Nat) (x0 : Int32) (x1 : Int32) (x2 : Int32) : Option Int32 :=
  jn1 (fun (x4_1 : Int32) => (if x2 = (0 : Int32) then gd (decide (¬ x4_1 = 0)) (some ((x0 / x4_1))) else gd (decide (¬ x4_1 = 0)) (some ((x1 / x4_1))))) (fun j_2 => lq2 (m_X7_term_L5 fu x0 x1 x2 j_2) fu x0 x1)
set_option maxRecDepth 100000 in
set_option maxHeartbeats 4000000 in
theorem k_X7_term (l : Launch) (D : va_G) (cy : ClassId) (w : ST → va_W) (S : ST) (fu : Nat) (x0 : Int32) (x1 : Int32) (x2 : Int32) (r : Int32) (h : m_X7_term fu x0 x1 x2 = some r) : CtI l yX7_term cX7_term 6 (some .int) 0 [.int x0, .int x1, .int x2] D cy w S r S := by
  refine CtI_of (by decide) (Nat.le_of_ble_eq_true rfl) ?_
  intro p e s m args below meth c A ls hC hr hk hw hl
  have hC : Cx p s m c RX7 cX7_term 6 args D cy := hC
  have hx := hC.1
  have hb := hC.2.1
  have hl : lv_has ls 6 [(0, .int x0), (1, .int x1), (2, .int x2)] := hl
  obtain ⟨H, eH⟩ : ∃ z : Heap, z = s.heap := ⟨_, rfl⟩
  obtain ⟨locs, elocs⟩ : ∃ z : List Loc, z = [] := ⟨_, rfl⟩
  have hw : InW D w A s.heap H locs S := by rw [eH, elocs]; exact hw
  suffices hsu : W p l e (rmN 0) s m args below meth c H locs 0 0 (QI below args s D w A r S) (F0 m 0 ls []) by rw [eH, elocs] at hsu; exact hsu
  unfold m_X7_term at h
  refine lv_iload_n hx hb dX7_term_0 rfl (lv_at hl 0 rfl) ?_
  refine lv_istore_n (lv' := [(3, .int x0), (0, .int x0), (1, .int x1), (2, .int x2)]) hx hb dX7_term_1 rfl hl (by decide) rfl (fun ls hl => ?_)
  refine lv_iload_n hx hb dX7_term_2 rfl (lv_at hl 2 rfl) ?_
  refine lv_istore (lv' := [(4, .int x1), (3, .int x0), (0, .int x0), (1, .int x1), (2, .int x2)]) hx hb dX7_term_3 hl (by decide) rfl (fun ls hl => ?_)
  refine jn1_ok (fun (x4_1 : Int32) => ∀ (H : Heap) (locs : List Loc) (ls : Array Slot), InW D w A s.heap H locs S → lv_has ls 6 [(0, .int x0), (1, .int x1), (2, .int x2), (4, .int x4_1)] → W p l e (rmN 0) s m args below meth c H locs 0 0 (QI below args s D w A r S) (F0 m 24 ls [])) ?_ ?_ h
  · intro x4_1 h H locs ls hw hl
    refine lv_iload_n hx hb dX7_term_24 rfl (lv_at hl 2 rfl) ?_
    refine lv_if_ne (tgt := 35) hx hb dX7_term_25 (by decide) (fun c_3 => ?_) (fun c_3 => ?_)
    · have h := if_at_f c_3 h
      refine lv_iload_n hx hb dX7_term_35 rfl (lv_at hl 1 rfl) ?_
      refine lv_iload hx hb dX7_term_36 (lv_at hl 3 rfl) ?_
      obtain ⟨hi, h⟩ := gd_at h
      refine lv_idiv hx hb dX7_term_38 (of_decide_eq_true hi) ?_
      exact rtI hC hr hk hw (so_at h) rfl dX7_term_39
    · have h := if_at_t c_3 h
      refine lv_iload_n hx hb dX7_term_28 rfl (lv_at hl 0 rfl) ?_
      refine lv_iload hx hb dX7_term_29 (lv_at hl 3 rfl) ?_
      obtain ⟨hi, h⟩ := gd_at h
      refine lv_idiv hx hb dX7_term_31 (of_decide_eq_true hi) ?_
      refine lv_goto (tgt := 39) hx hb dX7_term_32 (by decide) ?_
      exact rtI hC hr hk hw (so_at h) rfl dX7_term_39
  · intro j_2 hj_2 h
    refine lq2_ok (fun (x3_4 : Int32) (x4_5 : Int32) => ∀ (H : Heap) (locs : List Loc) (ls : Array Slot), InW D w A s.heap H locs S → lv_has ls 6 [(0, .int x0), (1, .int x1), (2, .int x2), (3, .int x3_4), (4, .int x4_5)] → W p l e (rmN 0) s m args below meth c H locs 0 0 (QI below args s D w A r S) (F0 m 5 ls [])) ?_ fu x0 x1 h H locs ls hw (lv_sub hl [2, 3, 4, 1, 0] rfl)
    intro ag_6 hag_6 x3_4 x4_5 h H locs ls hw hl
    unfold m_X7_term_L5 at h
    refine lv_iload_n hx hb dX7_term_5 rfl (lv_at hl 3 rfl) ?_
    refine lv_if_eq (tgt := 24) hx hb dX7_term_6 (by decide) (fun c_7 => ?_) (fun c_7 => ?_)
    · have h := if_at_t c_7 h
      exact hj_2 x4_5 h H locs ls hw (lv_sub hl [0, 1, 2, 4] rfl)
    · have h := if_at_f c_7 h
      refine lv_iload hx hb dX7_term_9 (lv_at hl 4 rfl) ?_
      refine lv_iload_n hx hb dX7_term_11 rfl (lv_at hl 3 rfl) ?_
      obtain ⟨hi, h⟩ := gd_at h
      refine lv_irem hx hb dX7_term_12 (of_decide_eq_true hi) ?_
      refine lv_topi (fun x5_8 ex5_8 => ?_)
      have h := nm_at ex5_8 h
      refine lv_istore (lv' := [(5, .int x5_8), (0, .int x0), (1, .int x1), (2, .int x2), (3, .int x3_4), (4, .int x4_5)]) hx hb dX7_term_13 hl (by decide) rfl (fun ls hl => ?_)
      refine lv_iload_n hx hb dX7_term_15 rfl (lv_at hl 4 rfl) ?_
      refine lv_istore (lv' := [(4, .int x3_4), (5, .int x5_8), (0, .int x0), (1, .int x1), (2, .int x2), (3, .int x3_4)]) hx hb dX7_term_16 hl (by decide) rfl (fun ls hl => ?_)
      refine lv_iload hx hb dX7_term_18 (lv_at hl 1 rfl) ?_
      refine lv_istore_n (lv' := [(3, .int x5_8), (4, .int x3_4), (5, .int x5_8), (0, .int x0), (1, .int x1), (2, .int x2)]) hx hb dX7_term_20 rfl hl (by decide) rfl (fun ls hl => ?_)
      refine lv_goto (tgt := 5) hx hb dX7_term_21 (by decide) ?_
      exact hag_6 x5_8 x3_4 h H locs ls hw (lv_sub hl [3, 4, 5, 0, 1] rfl)
def m_X7_oddsOf (fu : Nat) (x1 : Int32) (x2 : Int32) (x3 : Int32) (S : ST) : Option (Int32 × ST) :=
  bd2 (m_X7_livesOf fu x1 x2 S) (fun v_2 S_3 => bd (m_X7_power fu (10 : Int32) x2) (fun v_5 => bd (m_X7_term fu v_2 v_5 x3) (fun v_7 => some (v_7, S_3))))
set_option maxRecDepth 100000 in
set_option maxHeartbeats 4000000 in
theorem k_X7_oddsOf (l : Launch) (D : va_G) (cy : ClassId) (a : Nat → Nat) (fu : Nat) (x1 : Int32) (x2 : Int32) (x3 : Int32) (S : ST) (r : Int32) (S' : ST) (h : m_X7_oddsOf fu x1 x2 x3 S = some (r, S')) : CtI l yX7_oddsOf cX7_oddsOf 4 (some .int) 4 [.ref (a 0), .int x1, .int x2, .int x3] D cy (wM cy a) S r S' := by
  refine CtI_of (by decide) (Nat.le_of_ble_eq_true rfl) ?_
  intro p e s m args below meth c A ls hC hr hk hw hl
  have hC : Cx p s m c RX7 cX7_oddsOf 4 args D cy := hC
  have hx := hC.1
  have hb := hC.2.1
  have hl : lv_has ls 4 [(0, .ref (a 0)), (1, .int x1), (2, .int x2), (3, .int x3)] := hl
  obtain ⟨H, eH⟩ : ∃ z : Heap, z = s.heap := ⟨_, rfl⟩
  obtain ⟨locs, elocs⟩ : ∃ z : List Loc, z = [] := ⟨_, rfl⟩
  have hw : InW D (wM cy a) A s.heap H locs S := by rw [eH, elocs]; exact hw
  suffices hsu : W p l e (rmN 4) s m args below meth c H locs 0 0 (QI below args s D (wM cy a) A r S') (F0 m 0 ls []) by rw [eH, elocs] at hsu; exact hsu
  unfold m_X7_oddsOf at h
  refine lv_aload_n hx hb dX7_oddsOf_0 rfl (lv_at hl 0 rfl) ?_
  refine lv_iload_n hx hb dX7_oddsOf_1 rfl (lv_at hl 1 rfl) ?_
  refine lv_iload_n hx hb dX7_oddsOf_2 rfl (lv_at hl 2 rfl) ?_
  obtain ⟨v_2, S_3, hc_1, h⟩ := bd2_at h
  refine caVI (As := [.int x1, .int x2]) (rest := []) hC hw hl.1 lm_RX7_153 li_RX7 lk_yX7_livesOf li_yX7_livesOf ll_yX7_livesOf 0 5 (cM_0 cy a S) rfl 2 rfl hd_X7_livesOf (by decide) (by decide) (Nat.le_of_ble_eq_true rfl) dX7_oddsOf_3 (k_X7_livesOf l D cy a fu x1 x2 S _ _ hc_1) (fun H locs hw => ?_)
  refine lv_bipush (v := 10) hx hb dX7_oddsOf_6 (by decide) ?_
  refine lv_iload_n hx hb dX7_oddsOf_8 rfl (lv_at hl 2 rfl) ?_
  obtain ⟨v_5, hc_4, h⟩ := bd_at h
  refine caSI (As := [.int (10 : Int32), .int x2]) (rest := [.int v_2]) hC hw hl.1 lm_RX7_150 li_RX7 lk_yX7_power ls_yX7_power 2 rfl hd_X7_power (by decide) (by decide) (Nat.le_of_ble_eq_true rfl) dX7_oddsOf_9 (k_X7_power l D cy (wM cy a) S_3 fu (10 : Int32) x2 _ hc_4) (fun H locs hw => ?_)
  refine lv_iload_n hx hb dX7_oddsOf_12 rfl (lv_at hl 3 rfl) ?_
  obtain ⟨v_7, hc_6, h⟩ := bd_at h
  refine caSI (As := [.int v_2, .int v_5, .int x3]) (rest := []) hC hw hl.1 lm_RX7_156 li_RX7 lk_yX7_term ls_yX7_term 3 rfl hd_X7_term (by decide) (by decide) (Nat.le_of_ble_eq_true rfl) dX7_oddsOf_13 (k_X7_term l D cy (wM cy a) S_3 fu v_2 v_5 x3 _ hc_6) (fun H locs hw => ?_)
  exact rtI hC hr hk hw (so_at2 h).1 (so_at2 h).2 dX7_oddsOf_16
def m_X7_odds (fu : Nat) (x1 : Int32) (x2 : Int32) (x3 : Int32) (S : ST) : Option (Int32 × ST) :=
  bd (m_X7_isFile fu x1 S) (fun v_2 => (if v_2 = (0 : Int32) then some ((-101 : Int32), S) else bd (m_X7_in fu ((x2).toInt64) (0 : Int64) (4 : Int64)) (fun v_5 => (if v_5 = (0 : Int32) then some ((-102 : Int32), S) else bd (m_X7_in fu ((x3).toInt64) (0 : Int64) (1 : Int64)) (fun v_8 => (if v_8 = (0 : Int32) then some ((-102 : Int32), S) else bd2 (m_X7_oddsOf fu x1 x2 x3 S) (fun v_11 S_12 => some (v_11, S_12))))))))
set_option maxRecDepth 100000 in
set_option maxHeartbeats 4000000 in
theorem k_X7_odds (l : Launch) (D : va_G) (cy : ClassId) (a : Nat → Nat) (fu : Nat) (x1 : Int32) (x2 : Int32) (x3 : Int32) (S : ST) (r : Int32) (S' : ST) (h : m_X7_odds fu x1 x2 x3 S = some (r, S')) : CtI l yX7_odds cX7_odds 4 (some .int) 5 [.ref (a 0), .int x1, .int x2, .int x3] D cy (wM cy a) S r S' := by
  refine CtI_of (by decide) (Nat.le_of_ble_eq_true rfl) ?_
  intro p e s m args below meth c A ls hC hr hk hw hl
  have hC : Cx p s m c RX7 cX7_odds 4 args D cy := hC
  have hx := hC.1
  have hb := hC.2.1
  have hl : lv_has ls 4 [(0, .ref (a 0)), (1, .int x1), (2, .int x2), (3, .int x3)] := hl
  obtain ⟨H, eH⟩ : ∃ z : Heap, z = s.heap := ⟨_, rfl⟩
  obtain ⟨locs, elocs⟩ : ∃ z : List Loc, z = [] := ⟨_, rfl⟩
  have hw : InW D (wM cy a) A s.heap H locs S := by rw [eH, elocs]; exact hw
  suffices hsu : W p l e (rmN 5) s m args below meth c H locs 0 0 (QI below args s D (wM cy a) A r S') (F0 m 0 ls []) by rw [eH, elocs] at hsu; exact hsu
  unfold m_X7_odds at h
  refine lv_aload_n hx hb dX7_odds_0 rfl (lv_at hl 0 rfl) ?_
  refine lv_iload_n hx hb dX7_odds_1 rfl (lv_at hl 1 rfl) ?_
  obtain ⟨v_2, hc_1, h⟩ := bd_at h
  refine caVI (As := [.int x1]) (rest := []) hC hw hl.1 lm_RX7_117 li_RX7 lk_yX7_isFile li_yX7_isFile ll_yX7_isFile 0 5 (cM_0 cy a S) rfl 1 rfl hd_X7_isFile (by decide) (by decide) (Nat.le_of_ble_eq_true rfl) dX7_odds_2 (k_X7_isFile l D cy a fu x1 S _ hc_1) (fun H locs hw => ?_)
  refine lv_if_ne (tgt := 11) hx hb dX7_odds_5 (by decide) (fun c_3 => ?_) (fun c_3 => ?_)
  · have h := if_at_f c_3 h
    refine lv_iload_n hx hb dX7_odds_11 rfl (lv_at hl 2 rfl) ?_
    refine lv_i2l hx hb dX7_odds_12 rfl ?_
    refine lv_lconst (v := 0) hx hb dX7_odds_13 (by decide) ?_
    refine lv_ldc2 hx hb hC.2.2.2.1 (hC.2.2.2.2.1 _ lc_RX7_107) dX7_odds_14 ?_
    obtain ⟨v_5, hc_4, h⟩ := bd_at h
    refine caSI (As := [.long (x2).toInt64, .long (0 : Int64), .long (4 : Int64)]) (rest := []) hC hw hl.1 lm_RX7_61 li_RX7 lk_yX7_in ls_yX7_in 3 rfl hd_X7_in (by decide) (by decide) (Nat.le_of_ble_eq_true rfl) dX7_odds_17 (k_X7_in l D cy (wM cy a) S fu ((x2).toInt64) (0 : Int64) (4 : Int64) _ hc_4) (fun H locs hw => ?_)
    refine lv_if_eq (tgt := 43) hx hb dX7_odds_20 (by decide) (fun c_6 => ?_) (fun c_6 => ?_)
    · have h := if_at_t c_6 h
      refine lv_bipush (v := -102) hx hb dX7_odds_43 (by decide) ?_
      exact rtI hC hr hk hw (so_at2 h).1 (so_at2 h).2 dX7_odds_45
    · have h := if_at_f c_6 h
      refine lv_iload_n hx hb dX7_odds_23 rfl (lv_at hl 3 rfl) ?_
      refine lv_i2l hx hb dX7_odds_24 rfl ?_
      refine lv_lconst (v := 0) hx hb dX7_odds_25 (by decide) ?_
      refine lv_lconst (v := 1) hx hb dX7_odds_26 (by decide) ?_
      obtain ⟨v_8, hc_7, h⟩ := bd_at h
      refine caSI (As := [.long (x3).toInt64, .long (0 : Int64), .long (1 : Int64)]) (rest := []) hC hw hl.1 lm_RX7_61 li_RX7 lk_yX7_in ls_yX7_in 3 rfl hd_X7_in (by decide) (by decide) (Nat.le_of_ble_eq_true rfl) dX7_odds_27 (k_X7_in l D cy (wM cy a) S fu ((x3).toInt64) (0 : Int64) (1 : Int64) _ hc_7) (fun H locs hw => ?_)
      refine lv_if_eq (tgt := 43) hx hb dX7_odds_30 (by decide) (fun c_9 => ?_) (fun c_9 => ?_)
      · have h := if_at_t c_9 h
        refine lv_bipush (v := -102) hx hb dX7_odds_43 (by decide) ?_
        exact rtI hC hr hk hw (so_at2 h).1 (so_at2 h).2 dX7_odds_45
      · have h := if_at_f c_9 h
        refine lv_aload_n hx hb dX7_odds_33 rfl (lv_at hl 0 rfl) ?_
        refine lv_iload_n hx hb dX7_odds_34 rfl (lv_at hl 1 rfl) ?_
        refine lv_iload_n hx hb dX7_odds_35 rfl (lv_at hl 2 rfl) ?_
        refine lv_iload_n hx hb dX7_odds_36 rfl (lv_at hl 3 rfl) ?_
        obtain ⟨v_11, S_12, hc_10, h⟩ := bd2_at h
        refine caVI (As := [.int x1, .int x2, .int x3]) (rest := []) hC hw hl.1 lm_RX7_160 li_RX7 lk_yX7_oddsOf li_yX7_oddsOf ll_yX7_oddsOf 0 5 (cM_0 cy a S) rfl 3 rfl hd_X7_oddsOf (by decide) (by decide) (Nat.le_of_ble_eq_true rfl) dX7_odds_37 (k_X7_oddsOf l D cy a fu x1 x2 x3 S _ _ hc_10) (fun H locs hw => ?_)
        refine lv_goto (tgt := 45) hx hb dX7_odds_40 (by decide) ?_
        exact rtI hC hr hk hw (so_at2 h).1 (so_at2 h).2 dX7_odds_45
  · have h := if_at_t c_3 h
    refine lv_bipush (v := -101) hx hb dX7_odds_8 (by decide) ?_
    exact rtI hC hr hk hw (so_at2 h).1 (so_at2 h).2 dX7_odds_10
def m_X7_whereOf_L13 (fu : Nat) (x1 : Int32) (x2 : Int32) (ag_8 : Int32 → Int32 → Int32 → ST → Option (Int32 × ST)) (x3_4 : Int32) (x4_5 : Int32) (x5_6 : Int32) (S_7 : ST) : Option (Int32 × ST) :=
  (if (6 : Int32) ≤ x5_6 then some (x4_5, S_7) else bd (m_X7_mayCopy fu x1 x5_6 S_7) (fun v_11 => jn3 (fun (x3_12 : Int32) (x4_13 : Int32) (S_14 : ST) => nm (x5_6 + (1 : Int32)) (fun x5_16 => ag_8 x3_12 x4_13 x5_16 S_14)) (fun j_15 => (if v_11 = (0 : Int32) then j_15 x3_4 x4_5 S_7 else gd (inB x1 5) (gd (inB x1 5) (nm (wrA S_7 3 x1 (((rdA S_7 3 x1) ||| ((1 : Int32) <<< (x5_6 &&& (31 : Int32)))))) (fun S_18 => bd2 (m_X7_livesOf fu x1 x2 S_18) (fun v_20 S_21 => gd (inB x1 5) (gd (inB x1 5) (nm (wrA S_21 3 x1 (((rdA S_21 3 x1) &&& (((1 : Int32) <<< (x5_6 &&& (31 : Int32))) ^^^ (-1 : Int32))))) (fun S_22 => jn1 (fun (v_23 : Int32) => jn1 (fun (v_25 : Int32) => j_15 v_25 v_23 S_22) (fun j_26 => (if v_20 ≤ x3_4 then j_26 x3_4 else j_26 v_20))) (fun j_24 => (if v_20 ≤ x3_4 then j_24 x4_5 else j_24 x5_6)))))))))))))
def m_X7_whereOf (fu : Nat) (x1 : Int32) (x2 : Int32) (S : ST) : Option (Int32 × ST) :=
  bd2 (m_X7_livesOf fu x1 x2 S) (fun v_2 S_3 => lq4 (m_X7_whereOf_L13 fu x1 x2) fu v_2 (-1 : Int32) (0 : Int32) S_3)
set_option maxRecDepth 100000 in
set_option maxHeartbeats 4000000 in
theorem k_X7_whereOf (l : Launch) (D : va_G) (cy : ClassId) (a : Nat → Nat) (fu : Nat) (x1 : Int32) (x2 : Int32) (S : ST) (r : Int32) (S' : ST) (h : m_X7_whereOf fu x1 x2 S = some (r, S')) : CtI l yX7_whereOf cX7_whereOf 7 (some .int) 4 [.ref (a 0), .int x1, .int x2] D cy (wM cy a) S r S' := by
  refine CtI_of (by decide) (Nat.le_of_ble_eq_true rfl) ?_
  intro p e s m args below meth c A ls hC hr hk hw hl
  have hC : Cx p s m c RX7 cX7_whereOf 7 args D cy := hC
  have hx := hC.1
  have hb := hC.2.1
  have hl : lv_has ls 7 [(0, .ref (a 0)), (1, .int x1), (2, .int x2)] := hl
  obtain ⟨H, eH⟩ : ∃ z : Heap, z = s.heap := ⟨_, rfl⟩
  obtain ⟨locs, elocs⟩ : ∃ z : List Loc, z = [] := ⟨_, rfl⟩
  have hw : InW D (wM cy a) A s.heap H locs S := by rw [eH, elocs]; exact hw
  suffices hsu : W p l e (rmN 4) s m args below meth c H locs 0 0 (QI below args s D (wM cy a) A r S') (F0 m 0 ls []) by rw [eH, elocs] at hsu; exact hsu
  unfold m_X7_whereOf at h
  refine lv_aload_n hx hb dX7_whereOf_0 rfl (lv_at hl 0 rfl) ?_
  refine lv_iload_n hx hb dX7_whereOf_1 rfl (lv_at hl 1 rfl) ?_
  refine lv_iload_n hx hb dX7_whereOf_2 rfl (lv_at hl 2 rfl) ?_
  obtain ⟨v_2, S_3, hc_1, h⟩ := bd2_at h
  refine caVI (As := [.int x1, .int x2]) (rest := []) hC hw hl.1 lm_RX7_153 li_RX7 lk_yX7_livesOf li_yX7_livesOf ll_yX7_livesOf 0 5 (cM_0 cy a S) rfl 2 rfl hd_X7_livesOf (by decide) (by decide) (Nat.le_of_ble_eq_true rfl) dX7_whereOf_3 (k_X7_livesOf l D cy a fu x1 x2 S _ _ hc_1) (fun H locs hw => ?_)
  refine lv_istore_n (lv' := [(3, .int v_2), (0, .ref (a 0)), (1, .int x1), (2, .int x2)]) hx hb dX7_whereOf_6 rfl hl (by decide) rfl (fun ls hl => ?_)
  refine lv_iconst (v := -1) hx hb dX7_whereOf_7 (by decide) ?_
  refine lv_istore (lv' := [(4, .int (-1 : Int32)), (3, .int v_2), (0, .ref (a 0)), (1, .int x1), (2, .int x2)]) hx hb dX7_whereOf_8 hl (by decide) rfl (fun ls hl => ?_)
  refine lv_iconst (v := 0) hx hb dX7_whereOf_10 (by decide) ?_
  refine lv_istore (lv' := [(5, .int (0 : Int32)), (4, .int (-1 : Int32)), (3, .int v_2), (0, .ref (a 0)), (1, .int x1), (2, .int x2)]) hx hb dX7_whereOf_11 hl (by decide) rfl (fun ls hl => ?_)
  refine lq4_ok (fun (x3_4 : Int32) (x4_5 : Int32) (x5_6 : Int32) (S_7 : ST) => ∀ (H : Heap) (locs : List Loc) (ls : Array Slot), InW D (wM cy a) A s.heap H locs S_7 → lv_has ls 7 [(0, .ref (a 0)), (1, .int x1), (2, .int x2), (3, .int x3_4), (4, .int x4_5), (5, .int x5_6)] → W p l e (rmN 4) s m args below meth c H locs 0 0 (QI below args s D (wM cy a) A r S') (F0 m 13 ls [])) ?_ fu v_2 (-1 : Int32) (0 : Int32) S_3 h H locs ls hw (lv_sub hl [3, 4, 5, 2, 1, 0] rfl)
  intro ag_8 hag_8 x3_4 x4_5 x5_6 S_7 h H locs ls hw hl
  unfold m_X7_whereOf_L13 at h
  refine lv_iload hx hb dX7_whereOf_13 (lv_at hl 5 rfl) ?_
  refine lv_bipush (v := 6) hx hb dX7_whereOf_15 (by decide) ?_
  refine lv_icmp_ge (tgt := 100) hx hb dX7_whereOf_17 (by decide) (fun c_9 => ?_) (fun c_9 => ?_)
  · have h := if_at_t c_9 h
    refine lv_iload hx hb dX7_whereOf_100 (lv_at hl 4 rfl) ?_
    exact rtI hC hr hk hw (so_at2 h).1 (so_at2 h).2 dX7_whereOf_102
  · have h := if_at_f c_9 h
    refine lv_aload_n hx hb dX7_whereOf_20 rfl (lv_at hl 0 rfl) ?_
    refine lv_iload_n hx hb dX7_whereOf_21 rfl (lv_at hl 1 rfl) ?_
    refine lv_iload hx hb dX7_whereOf_22 (lv_at hl 5 rfl) ?_
    obtain ⟨v_11, hc_10, h⟩ := bd_at h
    refine caVI (As := [.int x1, .int x5_6]) (rest := []) hC hw hl.1 lm_RX7_126 li_RX7 lk_yX7_mayCopy li_yX7_mayCopy ll_yX7_mayCopy 0 5 (cM_0 cy a S_7) rfl 2 rfl hd_X7_mayCopy (by decide) (by decide) (Nat.le_of_ble_eq_true rfl) dX7_whereOf_24 (k_X7_mayCopy l D cy a fu x1 x5_6 S_7 _ hc_10) (fun H locs hw => ?_)
    refine jn3_ok (fun (x3_12 : Int32) (x4_13 : Int32) (S_14 : ST) => ∀ (H : Heap) (locs : List Loc) (ls : Array Slot), InW D (wM cy a) A s.heap H locs S_14 → lv_has ls 7 [(0, .ref (a 0)), (1, .int x1), (2, .int x2), (3, .int x3_12), (4, .int x4_13), (5, .int x5_6)] → W p l e (rmN 4) s m args below meth c H locs 0 0 (QI below args s D (wM cy a) A r S') (F0 m 94 ls [])) ?_ ?_ h
    · intro x3_12 x4_13 S_14 h H locs ls hw hl
      obtain ⟨x5_16, ex5_16⟩ : ∃ z : Int32, z = x5_6 + (1 : Int32) := ⟨_, rfl⟩
      have h := nm_at ex5_16 h
      refine lv_iinc (v := x5_16) (lv' := [(5, .int x5_16), (0, .ref (a 0)), (1, .int x1), (2, .int x2), (3, .int x3_12), (4, .int x4_13)]) hx hb dX7_whereOf_94 hl (k := 5) rfl (by rw [ex5_16]; rfl) (by decide) rfl (fun ls hl => ?_)
      refine lv_goto (tgt := 13) hx hb dX7_whereOf_97 (by decide) ?_
      exact hag_8 x3_12 x4_13 x5_16 S_14 h H locs ls hw (lv_sub hl [1, 2, 3, 4, 5, 0] rfl)
    · intro j_15 hj_15 h
      refine lv_if_eq (tgt := 94) hx hb dX7_whereOf_27 (by decide) (fun c_17 => ?_) (fun c_17 => ?_)
      · have h := if_at_t c_17 h
        exact hj_15 x3_4 x4_5 S_7 h H locs ls hw (lv_sub hl [0, 1, 2, 3, 4, 5] rfl)
      · have h := if_at_f c_17 h
        refine lv_aload_n hx hb dX7_whereOf_30 rfl (lv_at hl 0 rfl) ?_
        refine gf (v := .ref (a 4)) hC hw in_X7 0 5 8 (cM_0 cy a S_7) rfl (by decide) lf_RX7_19 rfl rfl dX7_whereOf_31 ?_
        refine lv_iload_n hx hb dX7_whereOf_34 rfl (lv_at hl 1 rfl) ?_
        refine lv_dup2_11 hx hb dX7_whereOf_35 rfl rfl ?_
        obtain ⟨hi, h⟩ := gd_at h
        refine ga hC hw 4 (cM_4 cy a S_7) hi dX7_whereOf_36 ?_
        refine lv_iconst (v := 1) hx hb dX7_whereOf_37 (by decide) ?_
        refine lv_iload hx hb dX7_whereOf_38 (lv_at hl 5 rfl) ?_
        refine lv_ishl hx hb dX7_whereOf_40 ?_
        refine lv_ior hx hb dX7_whereOf_41 ?_
        obtain ⟨hi, h⟩ := gd_at h
        refine pa hC hw 4 (cM_4 cy a S_7) hi (rM_4 cy a S_7) dX7_whereOf_42 (fun H locs hw => ?_)
        obtain ⟨S_18, hw, h⟩ := nmw (P := fun z => InW D (wM cy a) A s.heap H locs z) hw h
        refine lv_aload_n hx hb dX7_whereOf_43 rfl (lv_at hl 0 rfl) ?_
        refine lv_iload_n hx hb dX7_whereOf_44 rfl (lv_at hl 1 rfl) ?_
        refine lv_iload_n hx hb dX7_whereOf_45 rfl (lv_at hl 2 rfl) ?_
        obtain ⟨v_20, S_21, hc_19, h⟩ := bd2_at h
        refine caVI (As := [.int x1, .int x2]) (rest := []) hC hw hl.1 lm_RX7_153 li_RX7 lk_yX7_livesOf li_yX7_livesOf ll_yX7_livesOf 0 5 (cM_0 cy a S_18) rfl 2 rfl hd_X7_livesOf (by decide) (by decide) (Nat.le_of_ble_eq_true rfl) dX7_whereOf_46 (k_X7_livesOf l D cy a fu x1 x2 S_18 _ _ hc_19) (fun H locs hw => ?_)
        refine lv_istore (lv' := [(6, .int v_20), (0, .ref (a 0)), (1, .int x1), (2, .int x2), (3, .int x3_4), (4, .int x4_5), (5, .int x5_6)]) hx hb dX7_whereOf_49 hl (by decide) rfl (fun ls hl => ?_)
        refine lv_aload_n hx hb dX7_whereOf_51 rfl (lv_at hl 1 rfl) ?_
        refine gf (v := .ref (a 4)) hC hw in_X7 0 5 8 (cM_0 cy a S_21) rfl (by decide) lf_RX7_19 rfl rfl dX7_whereOf_52 ?_
        refine lv_iload_n hx hb dX7_whereOf_55 rfl (lv_at hl 2 rfl) ?_
        refine lv_dup2_11 hx hb dX7_whereOf_56 rfl rfl ?_
        obtain ⟨hi, h⟩ := gd_at h
        refine ga hC hw 4 (cM_4 cy a S_21) hi dX7_whereOf_57 ?_
        refine lv_iconst (v := 1) hx hb dX7_whereOf_58 (by decide) ?_
        refine lv_iload hx hb dX7_whereOf_59 (lv_at hl 6 rfl) ?_
        refine lv_ishl hx hb dX7_whereOf_61 ?_
        refine lv_iconst (v := -1) hx hb dX7_whereOf_62 (by decide) ?_
        refine lv_ixor hx hb dX7_whereOf_63 ?_
        refine lv_iand hx hb dX7_whereOf_64 ?_
        obtain ⟨hi, h⟩ := gd_at h
        refine pa hC hw 4 (cM_4 cy a S_21) hi (rM_4 cy a S_21) dX7_whereOf_65 (fun H locs hw => ?_)
        obtain ⟨S_22, hw, h⟩ := nmw (P := fun z => InW D (wM cy a) A s.heap H locs z) hw h
        refine lv_iload hx hb dX7_whereOf_66 (lv_at hl 0 rfl) ?_
        refine lv_iload_n hx hb dX7_whereOf_68 rfl (lv_at hl 4 rfl) ?_
        refine jn1_ok (fun (v_23 : Int32) => ∀ (H : Heap) (locs : List Loc) (ls : Array Slot), InW D (wM cy a) A s.heap H locs S_22 → lv_has ls 7 [(0, .ref (a 0)), (1, .int x1), (2, .int x2), (3, .int x3_4), (5, .int x5_6), (6, .int v_20)] → W p l e (rmN 4) s m args below meth c H locs 0 0 (QI below args s D (wM cy a) A r S') (F0 m 79 ls [.int v_23])) ?_ ?_ h
        · intro v_23 h H locs ls hw hl
          refine lv_istore (lv' := [(4, .int v_23), (0, .ref (a 0)), (1, .int x1), (2, .int x2), (3, .int x3_4), (5, .int x5_6), (6, .int v_20)]) hx hb dX7_whereOf_79 hl (by decide) rfl (fun ls hl => ?_)
          refine lv_iload hx hb dX7_whereOf_81 (lv_at hl 6 rfl) ?_
          refine lv_iload_n hx hb dX7_whereOf_83 rfl (lv_at hl 4 rfl) ?_
          refine jn1_ok (fun (v_25 : Int32) => ∀ (H : Heap) (locs : List Loc) (ls : Array Slot), InW D (wM cy a) A s.heap H locs S_22 → lv_has ls 7 [(0, .ref (a 0)), (1, .int x1), (2, .int x2), (4, .int v_23), (5, .int x5_6)] → W p l e (rmN 4) s m args below meth c H locs 0 0 (QI below args s D (wM cy a) A r S') (F0 m 93 ls [.int v_25])) ?_ ?_ h
          · intro v_25 h H locs ls hw hl
            refine lv_istore_n (lv' := [(3, .int v_25), (0, .ref (a 0)), (1, .int x1), (2, .int x2), (4, .int v_23), (5, .int x5_6)]) hx hb dX7_whereOf_93 rfl hl (by decide) rfl (fun ls hl => ?_)
            exact hj_15 v_25 v_23 S_22 h H locs ls hw (lv_sub hl [1, 2, 3, 0, 4, 5] rfl)
          · intro j_26 hj_26 h
            refine lv_icmp_le (tgt := 92) hx hb dX7_whereOf_84 (by decide) (fun c_27 => ?_) (fun c_27 => ?_)
            · have h := if_at_t c_27 h
              refine lv_iload_n hx hb dX7_whereOf_92 rfl (lv_at hl 4 rfl) ?_
              exact hj_26 x3_4 h H locs ls hw (lv_sub hl [1, 2, 3, 0, 5] rfl)
            · have h := if_at_f c_27 h
              refine lv_iload hx hb dX7_whereOf_87 (lv_at hl 6 rfl) ?_
              refine lv_goto (tgt := 93) hx hb dX7_whereOf_89 (by decide) ?_
              exact hj_26 v_20 h H locs ls hw (lv_sub hl [1, 2, 3, 0, 5] rfl)
        · intro j_24 hj_24 h
          refine lv_icmp_le (tgt := 77) hx hb dX7_whereOf_69 (by decide) (fun c_28 => ?_) (fun c_28 => ?_)
          · have h := if_at_t c_28 h
            refine lv_iload hx hb dX7_whereOf_77 (lv_at hl 5 rfl) ?_
            exact hj_24 x4_5 h H locs ls hw (lv_sub hl [1, 2, 3, 4, 6, 0] rfl)
          · have h := if_at_f c_28 h
            refine lv_iload hx hb dX7_whereOf_72 (lv_at hl 6 rfl) ?_
            refine lv_goto (tgt := 79) hx hb dX7_whereOf_74 (by decide) ?_
            exact hj_24 x5_6 h H locs ls hw (lv_sub hl [1, 2, 3, 4, 6, 0] rfl)
def m_X7_where (fu : Nat) (x1 : Int32) (x2 : Int32) (S : ST) : Option (Int32 × ST) :=
  bd (m_X7_isFile fu x1 S) (fun v_2 => (if v_2 = (0 : Int32) then some ((-101 : Int32), S) else bd (m_X7_in fu ((x2).toInt64) (0 : Int64) (4 : Int64)) (fun v_5 => (if v_5 = (0 : Int32) then some ((-102 : Int32), S) else bd2 (m_X7_whereOf fu x1 x2 S) (fun v_8 S_9 => some (v_8, S_9))))))
set_option maxRecDepth 100000 in
set_option maxHeartbeats 4000000 in
theorem k_X7_where (l : Launch) (D : va_G) (cy : ClassId) (a : Nat → Nat) (fu : Nat) (x1 : Int32) (x2 : Int32) (S : ST) (r : Int32) (S' : ST) (h : m_X7_where fu x1 x2 S = some (r, S')) : CtI l yX7_where cX7_where 3 (some .int) 5 [.ref (a 0), .int x1, .int x2] D cy (wM cy a) S r S' := by
  refine CtI_of (by decide) (Nat.le_of_ble_eq_true rfl) ?_
  intro p e s m args below meth c A ls hC hr hk hw hl
  have hC : Cx p s m c RX7 cX7_where 3 args D cy := hC
  have hx := hC.1
  have hb := hC.2.1
  have hl : lv_has ls 3 [(0, .ref (a 0)), (1, .int x1), (2, .int x2)] := hl
  obtain ⟨H, eH⟩ : ∃ z : Heap, z = s.heap := ⟨_, rfl⟩
  obtain ⟨locs, elocs⟩ : ∃ z : List Loc, z = [] := ⟨_, rfl⟩
  have hw : InW D (wM cy a) A s.heap H locs S := by rw [eH, elocs]; exact hw
  suffices hsu : W p l e (rmN 5) s m args below meth c H locs 0 0 (QI below args s D (wM cy a) A r S') (F0 m 0 ls []) by rw [eH, elocs] at hsu; exact hsu
  unfold m_X7_where at h
  refine lv_aload_n hx hb dX7_where_0 rfl (lv_at hl 0 rfl) ?_
  refine lv_iload_n hx hb dX7_where_1 rfl (lv_at hl 1 rfl) ?_
  obtain ⟨v_2, hc_1, h⟩ := bd_at h
  refine caVI (As := [.int x1]) (rest := []) hC hw hl.1 lm_RX7_117 li_RX7 lk_yX7_isFile li_yX7_isFile ll_yX7_isFile 0 5 (cM_0 cy a S) rfl 1 rfl hd_X7_isFile (by decide) (by decide) (Nat.le_of_ble_eq_true rfl) dX7_where_2 (k_X7_isFile l D cy a fu x1 S _ hc_1) (fun H locs hw => ?_)
  refine lv_if_ne (tgt := 11) hx hb dX7_where_5 (by decide) (fun c_3 => ?_) (fun c_3 => ?_)
  · have h := if_at_f c_3 h
    refine lv_iload_n hx hb dX7_where_11 rfl (lv_at hl 2 rfl) ?_
    refine lv_i2l hx hb dX7_where_12 rfl ?_
    refine lv_lconst (v := 0) hx hb dX7_where_13 (by decide) ?_
    refine lv_ldc2 hx hb hC.2.2.2.1 (hC.2.2.2.2.1 _ lc_RX7_107) dX7_where_14 ?_
    obtain ⟨v_5, hc_4, h⟩ := bd_at h
    refine caSI (As := [.long (x2).toInt64, .long (0 : Int64), .long (4 : Int64)]) (rest := []) hC hw hl.1 lm_RX7_61 li_RX7 lk_yX7_in ls_yX7_in 3 rfl hd_X7_in (by decide) (by decide) (Nat.le_of_ble_eq_true rfl) dX7_where_17 (k_X7_in l D cy (wM cy a) S fu ((x2).toInt64) (0 : Int64) (4 : Int64) _ hc_4) (fun H locs hw => ?_)
    refine lv_if_eq (tgt := 32) hx hb dX7_where_20 (by decide) (fun c_6 => ?_) (fun c_6 => ?_)
    · have h := if_at_t c_6 h
      refine lv_bipush (v := -102) hx hb dX7_where_32 (by decide) ?_
      exact rtI hC hr hk hw (so_at2 h).1 (so_at2 h).2 dX7_where_34
    · have h := if_at_f c_6 h
      refine lv_aload_n hx hb dX7_where_23 rfl (lv_at hl 0 rfl) ?_
      refine lv_iload_n hx hb dX7_where_24 rfl (lv_at hl 1 rfl) ?_
      refine lv_iload_n hx hb dX7_where_25 rfl (lv_at hl 2 rfl) ?_
      obtain ⟨v_8, S_9, hc_7, h⟩ := bd2_at h
      refine caVI (As := [.int x1, .int x2]) (rest := []) hC hw hl.1 lm_RX7_163 li_RX7 lk_yX7_whereOf li_yX7_whereOf ll_yX7_whereOf 0 5 (cM_0 cy a S) rfl 2 rfl hd_X7_whereOf (by decide) (by decide) (Nat.le_of_ble_eq_true rfl) dX7_where_26 (k_X7_whereOf l D cy a fu x1 x2 S _ _ hc_7) (fun H locs hw => ?_)
      refine lv_goto (tgt := 34) hx hb dX7_where_29 (by decide) ?_
      exact rtI hC hr hk hw (so_at2 h).1 (so_at2 h).2 dX7_where_34
  · have h := if_at_t c_3 h
    refine lv_bipush (v := -101) hx hb dX7_where_8 (by decide) ?_
    exact rtI hC hr hk hw (so_at2 h).1 (so_at2 h).2 dX7_where_10
def m_X7_isSure_L35 (fu : Nat) (x1 : Int32) (x2 : Int32) (x3 : Int32) (x5_2 : Int32) (S : ST) (j_10 : Int32 → Int32 → Option Int32) (ag_23 : Int32 → Int32 → Int32 → Int32 → Option Int32) (x6_19 : Int32) (x7_20 : Int32) (x8_21 : Int32) (x9_22 : Int32) : Option Int32 :=
  (if x3 ≤ x9_22 then j_10 x7_20 x8_21 else nm ((x6_19 - x6_19 / (6 : Int32) * (6 : Int32))) (fun x10_25 => nm ((x6_19 / (6 : Int32))) (fun x6_26 => jn2 (fun (x7_27 : Int32) (x9_28 : Int32) => jn1 (fun (v_30 : Int32) => jn1 (fun (v_32 : Int32) => nm ((x7_27 &&& v_32)) (fun x7_34 => jn2 (fun (x9_35 : Int32) (v_36 : Int32) => nm ((v_36 &&& (-1 : Int32))) (fun x7_38 => nm (x9_35 + (1 : Int32)) (fun x9_39 => ag_23 x6_26 x7_38 (0 : Int32) x9_39))) (fun j_37 => jn1 (fun (v_40 : Int32) => nm ((x7_34 &&& v_40)) (fun x7_42 => nm (x9_28 + (1 : Int32)) (fun x9_43 => ag_23 x6_26 x7_42 (0 : Int32) x9_43))) (fun j_41 => (if v_30 = (0 : Int32) then j_37 x9_28 x7_34 else (if x2 = (0 : Int32) then j_37 x9_28 x7_34 else j_41 ((((1 : Int32) <<< (((x10_25 + (1 : Int32)) - (x10_25 + (1 : Int32)) / (6 : Int32) * (6 : Int32)) &&& (31 : Int32))) ^^^ (-1 : Int32))))))))) (fun j_33 => (if v_30 = (0 : Int32) then j_33 (-1 : Int32) else j_33 ((((1 : Int32) <<< (x10_25 &&& (31 : Int32))) ^^^ (-1 : Int32)))))) (fun j_31 => (if ((x7_27 >>> (x10_25 &&& (31 : Int32))) &&& (1 : Int32)) = (1 : Int32) then j_31 (1 : Int32) else j_31 (0 : Int32)))) (fun j_29 => jn1 (fun (v_48 : Int32) => jn1 (fun (v_50 : Int32) => jn1 (fun (v_52 : Int32) => nm ((x7_20 &&& v_52)) (fun x7_54 => jn2 (fun (x9_55 : Int32) (v_56 : Int32) => nm ((v_56 &&& (-1 : Int32))) (fun x7_58 => nm (x9_55 + (1 : Int32)) (fun x9_59 => ag_23 x6_26 x7_58 v_48 x9_59))) (fun j_57 => jn1 (fun (v_60 : Int32) => nm ((x7_54 &&& v_60)) (fun x7_62 => nm (x9_22 + (1 : Int32)) (fun x9_63 => ag_23 x6_26 x7_62 v_48 x9_63))) (fun j_61 => (if v_50 = (0 : Int32) then j_57 x9_22 x7_54 else (if x2 = (0 : Int32) then j_57 x9_22 x7_54 else j_61 ((((1 : Int32) <<< (((x10_25 + (1 : Int32)) - (x10_25 + (1 : Int32)) / (6 : Int32) * (6 : Int32)) &&& (31 : Int32))) ^^^ (-1 : Int32))))))))) (fun j_53 => (if v_50 = (0 : Int32) then j_53 (-1 : Int32) else j_53 ((((1 : Int32) <<< (x10_25 &&& (31 : Int32))) ^^^ (-1 : Int32)))))) (fun j_51 => (if ((x7_20 >>> (x10_25 &&& (31 : Int32))) &&& (1 : Int32)) = (1 : Int32) then j_51 (1 : Int32) else j_51 (0 : Int32)))) (fun j_49 => (if x8_21 = (0 : Int32) then j_29 x7_20 x9_22 else gd (inB x10_25 6) ((if (rdA S 1 x10_25) ≤ (0 : Int32) then j_29 x7_20 x9_22 else j_49 (1 : Int32)))))))))
def m_X7_isSure_L6 (fu : Nat) (x1 : Int32) (x2 : Int32) (x3 : Int32) (S : ST) (ag_3 : Int32 → Int32 → Option Int32) (x4_1 : Int32) (x5_2 : Int32) : Option Int32 :=
  bd (m_X7_power fu (6 : Int32) x3) (fun v_5 => (if v_5 ≤ x5_2 then gd (zB x4_1) (some x4_1) else (if x4_1 = (0 : Int32) then gd (zB x4_1) (some x4_1) else jn2 (fun (x7_8 : Int32) (x8_9 : Int32) => jn1 (fun (x5_11 : Int32) => nm (x5_11 + (1 : Int32)) (fun x5_13 => ag_3 (1 : Int32) x5_13)) (fun j_12 => jn1 (fun (v_14 : Int32) => nm (x5_2 + (1 : Int32)) (fun x5_16 => ag_3 v_14 x5_16)) (fun j_15 => (if x8_9 = (0 : Int32) then j_12 x5_2 else (if x7_8 = (0 : Int32) then j_15 (0 : Int32) else j_12 x5_2))))) (fun j_10 => lq4 (m_X7_isSure_L35 fu x1 x2 x3 x5_2 S j_10) fu x5_2 x1 (1 : Int32) (0 : Int32)))))
def m_X7_isSure (fu : Nat) (x1 : Int32) (x2 : Int32) (x3 : Int32) (S : ST) : Option Int32 :=
  lq2 (m_X7_isSure_L6 fu x1 x2 x3 S) fu (1 : Int32) (0 : Int32)
set_option maxRecDepth 100000 in
set_option maxHeartbeats 4000000 in
theorem k_X7_isSure (l : Launch) (D : va_G) (cy : ClassId) (a : Nat → Nat) (fu : Nat) (x1 : Int32) (x2 : Int32) (x3 : Int32) (S : ST) (r : Int32) (h : m_X7_isSure fu x1 x2 x3 S = some r) : CtI l yX7_isSure cX7_isSure 12 (some .boolean) 1 [.ref (a 0), .int x1, .int x2, .int x3] D cy (wM cy a) S r S := by
  refine CtI_of (by decide) (Nat.le_of_ble_eq_true rfl) ?_
  intro p e s m args below meth c A ls hC hr hk hw hl
  have hC : Cx p s m c RX7 cX7_isSure 12 args D cy := hC
  have hx := hC.1
  have hb := hC.2.1
  have hl : lv_has ls 12 [(0, .ref (a 0)), (1, .int x1), (2, .int x2), (3, .int x3)] := hl
  obtain ⟨H, eH⟩ : ∃ z : Heap, z = s.heap := ⟨_, rfl⟩
  obtain ⟨locs, elocs⟩ : ∃ z : List Loc, z = [] := ⟨_, rfl⟩
  have hw : InW D (wM cy a) A s.heap H locs S := by rw [eH, elocs]; exact hw
  suffices hsu : W p l e (rmN 1) s m args below meth c H locs 0 0 (QI below args s D (wM cy a) A r S) (F0 m 0 ls []) by rw [eH, elocs] at hsu; exact hsu
  unfold m_X7_isSure at h
  refine lv_iconst (v := 1) hx hb dX7_isSure_0 (by decide) ?_
  refine lv_istore (lv' := [(4, .int (1 : Int32)), (0, .ref (a 0)), (1, .int x1), (2, .int x2), (3, .int x3)]) hx hb dX7_isSure_1 hl (by decide) rfl (fun ls hl => ?_)
  refine lv_iconst (v := 0) hx hb dX7_isSure_3 (by decide) ?_
  refine lv_istore (lv' := [(5, .int (0 : Int32)), (4, .int (1 : Int32)), (0, .ref (a 0)), (1, .int x1), (2, .int x2), (3, .int x3)]) hx hb dX7_isSure_4 hl (by decide) rfl (fun ls hl => ?_)
  refine lq2_ok (fun (x4_1 : Int32) (x5_2 : Int32) => ∀ (H : Heap) (locs : List Loc) (ls : Array Slot), InW D (wM cy a) A s.heap H locs S → lv_has ls 12 [(0, .ref (a 0)), (1, .int x1), (2, .int x2), (3, .int x3), (4, .int x4_1), (5, .int x5_2)] → W p l e (rmN 1) s m args below meth c H locs 0 0 (QI below args s D (wM cy a) A r S) (F0 m 6 ls [])) ?_ fu (1 : Int32) (0 : Int32) h H locs ls hw (lv_sub hl [2, 3, 4, 5, 1, 0] rfl)
  intro ag_3 hag_3 x4_1 x5_2 h H locs ls hw hl
  unfold m_X7_isSure_L6 at h
  refine lv_iload hx hb dX7_isSure_6 (lv_at hl 5 rfl) ?_
  refine lv_bipush (v := 6) hx hb dX7_isSure_8 (by decide) ?_
  refine lv_iload_n hx hb dX7_isSure_10 rfl (lv_at hl 3 rfl) ?_
  obtain ⟨v_5, hc_4, h⟩ := bd_at h
  refine caSI (As := [.int (6 : Int32), .int x3]) (rest := [.int x5_2]) hC hw hl.1 lm_RX7_150 li_RX7 lk_yX7_power ls_yX7_power 2 rfl hd_X7_power (by decide) (by decide) (Nat.le_of_ble_eq_true rfl) dX7_isSure_11 (k_X7_power l D cy (wM cy a) S fu (6 : Int32) x3 _ hc_4) (fun H locs hw => ?_)
  refine lv_icmp_ge (tgt := 173) hx hb dX7_isSure_14 (by decide) (fun c_6 => ?_) (fun c_6 => ?_)
  · have h := if_at_t c_6 h
    refine lv_iload hx hb dX7_isSure_173 (lv_at hl 4 rfl) ?_
    obtain ⟨hz, h⟩ := gd_at h
    exact rtZ hC hr hk hw hz (so_at h) rfl dX7_isSure_175
  · have h := if_at_f c_6 h
    refine lv_iload hx hb dX7_isSure_17 (lv_at hl 4 rfl) ?_
    refine lv_if_eq (tgt := 173) hx hb dX7_isSure_19 (by decide) (fun c_7 => ?_) (fun c_7 => ?_)
    · have h := if_at_t c_7 h
      refine lv_iload hx hb dX7_isSure_173 (lv_at hl 4 rfl) ?_
      obtain ⟨hz, h⟩ := gd_at h
      exact rtZ hC hr hk hw hz (so_at h) rfl dX7_isSure_175
    · have h := if_at_f c_7 h
      refine lv_iload hx hb dX7_isSure_22 (lv_at hl 5 rfl) ?_
      refine lv_istore (lv' := [(6, .int x5_2), (0, .ref (a 0)), (1, .int x1), (2, .int x2), (3, .int x3), (4, .int x4_1), (5, .int x5_2)]) hx hb dX7_isSure_24 hl (by decide) rfl (fun ls hl => ?_)
      refine lv_iload_n hx hb dX7_isSure_26 rfl (lv_at hl 2 rfl) ?_
      refine lv_istore (lv' := [(7, .int x1), (6, .int x5_2), (0, .ref (a 0)), (1, .int x1), (2, .int x2), (3, .int x3), (4, .int x4_1), (5, .int x5_2)]) hx hb dX7_isSure_27 hl (by decide) rfl (fun ls hl => ?_)
      refine lv_iconst (v := 1) hx hb dX7_isSure_29 (by decide) ?_
      refine lv_istore (lv' := [(8, .int (1 : Int32)), (7, .int x1), (6, .int x5_2), (0, .ref (a 0)), (1, .int x1), (2, .int x2), (3, .int x3), (4, .int x4_1), (5, .int x5_2)]) hx hb dX7_isSure_30 hl (by decide) rfl (fun ls hl => ?_)
      refine lv_iconst (v := 0) hx hb dX7_isSure_32 (by decide) ?_
      refine lv_istore (lv' := [(9, .int (0 : Int32)), (8, .int (1 : Int32)), (7, .int x1), (6, .int x5_2), (0, .ref (a 0)), (1, .int x1), (2, .int x2), (3, .int x3), (4, .int x4_1), (5, .int x5_2)]) hx hb dX7_isSure_33 hl (by decide) rfl (fun ls hl => ?_)
      refine jn2_ok (fun (x7_8 : Int32) (x8_9 : Int32) => ∀ (H : Heap) (locs : List Loc) (ls : Array Slot), InW D (wM cy a) A s.heap H locs S → lv_has ls 12 [(0, .ref (a 0)), (1, .int x1), (2, .int x2), (3, .int x3), (5, .int x5_2), (7, .int x7_8), (8, .int x8_9)] → W p l e (rmN 1) s m args below meth c H locs 0 0 (QI below args s D (wM cy a) A r S) (F0 m 150 ls [])) ?_ ?_ h
      · intro x7_8 x8_9 h H locs ls hw hl
        refine lv_iload hx hb dX7_isSure_150 (lv_at hl 6 rfl) ?_
        refine jn1_ok (fun (x5_11 : Int32) => ∀ (H : Heap) (locs : List Loc) (ls : Array Slot), InW D (wM cy a) A s.heap H locs S → lv_has ls 12 [(0, .ref (a 0)), (1, .int x1), (2, .int x2), (3, .int x3), (5, .int x5_11)] → W p l e (rmN 1) s m args below meth c H locs 0 0 (QI below args s D (wM cy a) A r S) (F0 m 160 ls [])) ?_ ?_ h
        · intro x5_11 h H locs ls hw hl
          refine lv_iconst (v := 1) hx hb dX7_isSure_160 (by decide) ?_
          refine lv_goto (tgt := 165) hx hb dX7_isSure_161 (by decide) ?_
          refine lv_istore (lv' := [(4, .int (1 : Int32)), (0, .ref (a 0)), (1, .int x1), (2, .int x2), (3, .int x3), (5, .int x5_11)]) hx hb dX7_isSure_165 hl (by decide) rfl (fun ls hl => ?_)
          obtain ⟨x5_13, ex5_13⟩ : ∃ z : Int32, z = x5_11 + (1 : Int32) := ⟨_, rfl⟩
          have h := nm_at ex5_13 h
          refine lv_iinc (v := x5_13) (lv' := [(5, .int x5_13), (4, .int (1 : Int32)), (0, .ref (a 0)), (1, .int x1), (2, .int x2), (3, .int x3)]) hx hb dX7_isSure_167 hl (k := 5) rfl (by rw [ex5_13]; rfl) (by decide) rfl (fun ls hl => ?_)
          refine lv_goto (tgt := 6) hx hb dX7_isSure_170 (by decide) ?_
          exact hag_3 (1 : Int32) x5_13 h H locs ls hw (lv_sub hl [2, 3, 4, 5, 1, 0] rfl)
        · intro j_12 hj_12 h
          refine jn1_ok (fun (v_14 : Int32) => ∀ (H : Heap) (locs : List Loc) (ls : Array Slot), InW D (wM cy a) A s.heap H locs S → lv_has ls 12 [(0, .ref (a 0)), (1, .int x1), (2, .int x2), (3, .int x3), (5, .int x5_2)] → W p l e (rmN 1) s m args below meth c H locs 0 0 (QI below args s D (wM cy a) A r S) (F0 m 165 ls [.int v_14])) ?_ ?_ h
          · intro v_14 h H locs ls hw hl
            refine lv_istore (lv' := [(4, .int v_14), (0, .ref (a 0)), (1, .int x1), (2, .int x2), (3, .int x3), (5, .int x5_2)]) hx hb dX7_isSure_165 hl (by decide) rfl (fun ls hl => ?_)
            obtain ⟨x5_16, ex5_16⟩ : ∃ z : Int32, z = x5_2 + (1 : Int32) := ⟨_, rfl⟩
            have h := nm_at ex5_16 h
            refine lv_iinc (v := x5_16) (lv' := [(5, .int x5_16), (4, .int v_14), (0, .ref (a 0)), (1, .int x1), (2, .int x2), (3, .int x3)]) hx hb dX7_isSure_167 hl (k := 5) rfl (by rw [ex5_16]; rfl) (by decide) rfl (fun ls hl => ?_)
            refine lv_goto (tgt := 6) hx hb dX7_isSure_170 (by decide) ?_
            exact hag_3 v_14 x5_16 h H locs ls hw (lv_sub hl [2, 3, 4, 5, 1, 0] rfl)
          · intro j_15 hj_15 h
            refine lv_if_eq (tgt := 160) hx hb dX7_isSure_152 (by decide) (fun c_17 => ?_) (fun c_17 => ?_)
            · have h := if_at_t c_17 h
              exact hj_12 x5_2 h H locs ls hw (lv_sub hl [0, 1, 2, 3, 4] rfl)
            · have h := if_at_f c_17 h
              refine lv_iload hx hb dX7_isSure_155 (lv_at hl 5 rfl) ?_
              refine lv_if_eq (tgt := 164) hx hb dX7_isSure_157 (by decide) (fun c_18 => ?_) (fun c_18 => ?_)
              · have h := if_at_t c_18 h
                refine lv_iconst (v := 0) hx hb dX7_isSure_164 (by decide) ?_
                exact hj_15 (0 : Int32) h H locs ls hw (lv_sub hl [0, 1, 2, 3, 4] rfl)
              · have h := if_at_f c_18 h
                exact hj_12 x5_2 h H locs ls hw (lv_sub hl [0, 1, 2, 3, 4] rfl)
      · intro j_10 hj_10 h
        refine lq4_ok (fun (x6_19 : Int32) (x7_20 : Int32) (x8_21 : Int32) (x9_22 : Int32) => ∀ (H : Heap) (locs : List Loc) (ls : Array Slot), InW D (wM cy a) A s.heap H locs S → lv_has ls 12 [(0, .ref (a 0)), (1, .int x1), (2, .int x2), (3, .int x3), (5, .int x5_2), (6, .int x6_19), (7, .int x7_20), (8, .int x8_21), (9, .int x9_22)] → W p l e (rmN 1) s m args below meth c H locs 0 0 (QI below args s D (wM cy a) A r S) (F0 m 35 ls [])) ?_ fu x5_2 x1 (1 : Int32) (0 : Int32) h H locs ls hw (lv_sub hl [4, 5, 6, 7, 9, 3, 2, 1, 0] rfl)
        intro ag_23 hag_23 x6_19 x7_20 x8_21 x9_22 h H locs ls hw hl
        unfold m_X7_isSure_L35 at h
        refine lv_iload hx hb dX7_isSure_35 (lv_at hl 8 rfl) ?_
        refine lv_iload_n hx hb dX7_isSure_37 rfl (lv_at hl 3 rfl) ?_
        refine lv_icmp_ge (tgt := 150) hx hb dX7_isSure_38 (by decide) (fun c_24 => ?_) (fun c_24 => ?_)
        · have h := if_at_t c_24 h
          exact hj_10 x7_20 x8_21 h H locs ls hw (lv_sub hl [0, 1, 2, 3, 4, 6, 7] rfl)
        · have h := if_at_f c_24 h
          refine lv_iload hx hb dX7_isSure_41 (lv_at hl 5 rfl) ?_
          refine lv_bipush (v := 6) hx hb dX7_isSure_43 (by decide) ?_
          refine lv_irem hx hb dX7_isSure_45 (by decide) ?_
          refine lv_topi (fun x10_25 ex10_25 => ?_)
          have h := nm_at ex10_25 h
          refine lv_istore (lv' := [(10, .int x10_25), (0, .ref (a 0)), (1, .int x1), (2, .int x2), (3, .int x3), (5, .int x5_2), (6, .int x6_19), (7, .int x7_20), (8, .int x8_21), (9, .int x9_22)]) hx hb dX7_isSure_46 hl (by decide) rfl (fun ls hl => ?_)
          refine lv_iload hx hb dX7_isSure_48 (lv_at hl 6 rfl) ?_
          refine lv_bipush (v := 6) hx hb dX7_isSure_50 (by decide) ?_
          refine lv_idiv hx hb dX7_isSure_52 (by decide) ?_
          refine lv_topi (fun x6_26 ex6_26 => ?_)
          have h := nm_at ex6_26 h
          refine lv_istore (lv' := [(6, .int x6_26), (10, .int x10_25), (0, .ref (a 0)), (1, .int x1), (2, .int x2), (3, .int x3), (5, .int x5_2), (7, .int x7_20), (8, .int x8_21), (9, .int x9_22)]) hx hb dX7_isSure_53 hl (by decide) rfl (fun ls hl => ?_)
          refine lv_iload hx hb dX7_isSure_55 (lv_at hl 8 rfl) ?_
          refine jn2_ok (fun (x7_27 : Int32) (x9_28 : Int32) => ∀ (H : Heap) (locs : List Loc) (ls : Array Slot), InW D (wM cy a) A s.heap H locs S → lv_has ls 12 [(0, .ref (a 0)), (1, .int x1), (2, .int x2), (3, .int x3), (5, .int x5_2), (6, .int x6_26), (7, .int x7_27), (9, .int x9_28), (10, .int x10_25)] → W p l e (rmN 1) s m args below meth c H locs 0 0 (QI below args s D (wM cy a) A r S) (F0 m 74 ls [])) ?_ ?_ h
          · intro x7_27 x9_28 h H locs ls hw hl
            refine lv_iconst (v := 0) hx hb dX7_isSure_74 (by decide) ?_
            refine lv_istore (lv' := [(8, .int (0 : Int32)), (0, .ref (a 0)), (1, .int x1), (2, .int x2), (3, .int x3), (5, .int x5_2), (6, .int x6_26), (7, .int x7_27), (9, .int x9_28), (10, .int x10_25)]) hx hb dX7_isSure_75 hl (by decide) rfl (fun ls hl => ?_)
            refine lv_iload hx hb dX7_isSure_77 (lv_at hl 7 rfl) ?_
            refine lv_iload hx hb dX7_isSure_79 (lv_at hl 9 rfl) ?_
            refine lv_ishr hx hb dX7_isSure_81 ?_
            refine lv_iconst (v := 1) hx hb dX7_isSure_82 (by decide) ?_
            refine lv_iand hx hb dX7_isSure_83 ?_
            refine lv_iconst (v := 1) hx hb dX7_isSure_84 (by decide) ?_
            refine jn1_ok (fun (v_30 : Int32) => ∀ (H : Heap) (locs : List Loc) (ls : Array Slot), InW D (wM cy a) A s.heap H locs S → lv_has ls 12 [(0, .ref (a 0)), (1, .int x1), (2, .int x2), (3, .int x3), (5, .int x5_2), (6, .int x6_26), (7, .int x7_27), (8, .int (0 : Int32)), (9, .int x9_28), (10, .int x10_25)] → W p l e (rmN 1) s m args below meth c H locs 0 0 (QI below args s D (wM cy a) A r S) (F0 m 93 ls [.int v_30])) ?_ ?_ h
            · intro v_30 h H locs ls hw hl
              refine lv_istore (lv' := [(11, .int v_30), (0, .ref (a 0)), (1, .int x1), (2, .int x2), (3, .int x3), (5, .int x5_2), (6, .int x6_26), (7, .int x7_27), (8, .int (0 : Int32)), (9, .int x9_28), (10, .int x10_25)]) hx hb dX7_isSure_93 hl (by decide) rfl (fun ls hl => ?_)
              refine lv_iload hx hb dX7_isSure_95 (lv_at hl 7 rfl) ?_
              refine lv_iload hx hb dX7_isSure_97 (lv_at hl 0 rfl) ?_
              refine jn1_ok (fun (v_32 : Int32) => ∀ (H : Heap) (locs : List Loc) (ls : Array Slot), InW D (wM cy a) A s.heap H locs S → lv_has ls 12 [(0, .ref (a 0)), (1, .int x1), (2, .int x2), (3, .int x3), (5, .int x5_2), (6, .int x6_26), (8, .int (0 : Int32)), (9, .int x9_28), (10, .int x10_25), (11, .int v_30)] → W p l e (rmN 1) s m args below meth c H locs 0 0 (QI below args s D (wM cy a) A r S) (F0 m 112 ls [.int v_32, .int x7_27])) ?_ ?_ h
              · intro v_32 h H locs ls hw hl
                refine lv_iand hx hb dX7_isSure_112 ?_
                refine lv_topi (fun x7_34 ex7_34 => ?_)
                have h := nm_at ex7_34 h
                refine lv_istore (lv' := [(7, .int x7_34), (0, .ref (a 0)), (1, .int x1), (2, .int x2), (3, .int x3), (5, .int x5_2), (6, .int x6_26), (8, .int (0 : Int32)), (9, .int x9_28), (10, .int x10_25), (11, .int v_30)]) hx hb dX7_isSure_113 hl (by decide) rfl (fun ls hl => ?_)
                refine lv_iload hx hb dX7_isSure_115 (lv_at hl 0 rfl) ?_
                refine lv_iload hx hb dX7_isSure_117 (lv_at hl 10 rfl) ?_
                refine jn2_ok (fun (x9_35 : Int32) (v_36 : Int32) => ∀ (H : Heap) (locs : List Loc) (ls : Array Slot), InW D (wM cy a) A s.heap H locs S → lv_has ls 12 [(0, .ref (a 0)), (1, .int x1), (2, .int x2), (3, .int x3), (5, .int x5_2), (6, .int x6_26), (8, .int (0 : Int32)), (9, .int x9_35)] → W p l e (rmN 1) s m args below meth c H locs 0 0 (QI below args s D (wM cy a) A r S) (F0 m 140 ls [.int v_36])) ?_ ?_ h
                · intro x9_35 v_36 h H locs ls hw hl
                  refine lv_iconst (v := -1) hx hb dX7_isSure_140 (by decide) ?_
                  refine lv_iand hx hb dX7_isSure_141 ?_
                  refine lv_topi (fun x7_38 ex7_38 => ?_)
                  have h := nm_at ex7_38 h
                  refine lv_istore (lv' := [(7, .int x7_38), (0, .ref (a 0)), (1, .int x1), (2, .int x2), (3, .int x3), (5, .int x5_2), (6, .int x6_26), (8, .int (0 : Int32)), (9, .int x9_35)]) hx hb dX7_isSure_142 hl (by decide) rfl (fun ls hl => ?_)
                  obtain ⟨x9_39, ex9_39⟩ : ∃ z : Int32, z = x9_35 + (1 : Int32) := ⟨_, rfl⟩
                  have h := nm_at ex9_39 h
                  refine lv_iinc (v := x9_39) (lv' := [(9, .int x9_39), (7, .int x7_38), (0, .ref (a 0)), (1, .int x1), (2, .int x2), (3, .int x3), (5, .int x5_2), (6, .int x6_26), (8, .int (0 : Int32))]) hx hb dX7_isSure_144 hl (k := 8) rfl (by rw [ex9_39]; rfl) (by decide) rfl (fun ls hl => ?_)
                  refine lv_goto (tgt := 35) hx hb dX7_isSure_147 (by decide) ?_
                  exact hag_23 x6_26 x7_38 (0 : Int32) x9_39 h H locs ls hw (lv_sub hl [2, 3, 4, 5, 6, 7, 1, 8, 0] rfl)
                · intro j_37 hj_37 h
                  refine jn1_ok (fun (v_40 : Int32) => ∀ (H : Heap) (locs : List Loc) (ls : Array Slot), InW D (wM cy a) A s.heap H locs S → lv_has ls 12 [(0, .ref (a 0)), (1, .int x1), (2, .int x2), (3, .int x3), (5, .int x5_2), (6, .int x6_26), (8, .int (0 : Int32)), (9, .int x9_28)] → W p l e (rmN 1) s m args below meth c H locs 0 0 (QI below args s D (wM cy a) A r S) (F0 m 141 ls [.int v_40, .int x7_34])) ?_ ?_ h
                  · intro v_40 h H locs ls hw hl
                    refine lv_iand hx hb dX7_isSure_141 ?_
                    refine lv_topi (fun x7_42 ex7_42 => ?_)
                    have h := nm_at ex7_42 h
                    refine lv_istore (lv' := [(7, .int x7_42), (0, .ref (a 0)), (1, .int x1), (2, .int x2), (3, .int x3), (5, .int x5_2), (6, .int x6_26), (8, .int (0 : Int32)), (9, .int x9_28)]) hx hb dX7_isSure_142 hl (by decide) rfl (fun ls hl => ?_)
                    obtain ⟨x9_43, ex9_43⟩ : ∃ z : Int32, z = x9_28 + (1 : Int32) := ⟨_, rfl⟩
                    have h := nm_at ex9_43 h
                    refine lv_iinc (v := x9_43) (lv' := [(9, .int x9_43), (7, .int x7_42), (0, .ref (a 0)), (1, .int x1), (2, .int x2), (3, .int x3), (5, .int x5_2), (6, .int x6_26), (8, .int (0 : Int32))]) hx hb dX7_isSure_144 hl (k := 8) rfl (by rw [ex9_43]; rfl) (by decide) rfl (fun ls hl => ?_)
                    refine lv_goto (tgt := 35) hx hb dX7_isSure_147 (by decide) ?_
                    exact hag_23 x6_26 x7_42 (0 : Int32) x9_43 h H locs ls hw (lv_sub hl [2, 3, 4, 5, 6, 7, 1, 8, 0] rfl)
                  · intro j_41 hj_41 h
                    refine lv_if_eq (tgt := 140) hx hb dX7_isSure_119 (by decide) (fun c_44 => ?_) (fun c_44 => ?_)
                    · have h := if_at_t c_44 h
                      exact hj_37 x9_28 x7_34 h H locs ls hw (lv_sub hl [1, 2, 3, 4, 5, 6, 7, 8] rfl)
                    · have h := if_at_f c_44 h
                      refine lv_iload_n hx hb dX7_isSure_122 rfl (lv_at hl 3 rfl) ?_
                      refine lv_if_eq (tgt := 140) hx hb dX7_isSure_123 (by decide) (fun c_45 => ?_) (fun c_45 => ?_)
                      · have h := if_at_t c_45 h
                        exact hj_37 x9_28 x7_34 h H locs ls hw (lv_sub hl [1, 2, 3, 4, 5, 6, 7, 8] rfl)
                      · have h := if_at_f c_45 h
                        refine lv_iconst (v := 1) hx hb dX7_isSure_126 (by decide) ?_
                        refine lv_iload hx hb dX7_isSure_127 (lv_at hl 9 rfl) ?_
                        refine lv_iconst (v := 1) hx hb dX7_isSure_129 (by decide) ?_
                        refine lv_iadd hx hb dX7_isSure_130 ?_
                        refine lv_bipush (v := 6) hx hb dX7_isSure_131 (by decide) ?_
                        refine lv_irem hx hb dX7_isSure_133 (by decide) ?_
                        refine lv_ishl hx hb dX7_isSure_134 ?_
                        refine lv_iconst (v := -1) hx hb dX7_isSure_135 (by decide) ?_
                        refine lv_ixor hx hb dX7_isSure_136 ?_
                        refine lv_goto (tgt := 141) hx hb dX7_isSure_137 (by decide) ?_
                        exact hj_41 ((((1 : Int32) <<< (((x10_25 + (1 : Int32)) - (x10_25 + (1 : Int32)) / (6 : Int32) * (6 : Int32)) &&& (31 : Int32))) ^^^ (-1 : Int32))) h H locs ls hw (lv_sub hl [1, 2, 3, 4, 5, 6, 7, 8] rfl)
              · intro j_33 hj_33 h
                refine lv_if_eq (tgt := 111) hx hb dX7_isSure_99 (by decide) (fun c_46 => ?_) (fun c_46 => ?_)
                · have h := if_at_t c_46 h
                  refine lv_iconst (v := -1) hx hb dX7_isSure_111 (by decide) ?_
                  exact hj_33 (-1 : Int32) h H locs ls hw (lv_sub hl [1, 2, 3, 4, 5, 6, 8, 9, 10, 0] rfl)
                · have h := if_at_f c_46 h
                  refine lv_iconst (v := 1) hx hb dX7_isSure_102 (by decide) ?_
                  refine lv_iload hx hb dX7_isSure_103 (lv_at hl 10 rfl) ?_
                  refine lv_ishl hx hb dX7_isSure_105 ?_
                  refine lv_iconst (v := -1) hx hb dX7_isSure_106 (by decide) ?_
                  refine lv_ixor hx hb dX7_isSure_107 ?_
                  refine lv_goto (tgt := 112) hx hb dX7_isSure_108 (by decide) ?_
                  exact hj_33 ((((1 : Int32) <<< (x10_25 &&& (31 : Int32))) ^^^ (-1 : Int32))) h H locs ls hw (lv_sub hl [1, 2, 3, 4, 5, 6, 8, 9, 10, 0] rfl)
            · intro j_31 hj_31 h
              refine lv_icmp_ne (tgt := 92) hx hb dX7_isSure_85 (by decide) (fun c_47 => ?_) (fun c_47 => ?_)
              · have h := if_at_f c_47 h
                refine lv_iconst (v := 0) hx hb dX7_isSure_92 (by decide) ?_
                exact hj_31 (0 : Int32) h H locs ls hw (lv_sub hl [1, 2, 3, 4, 5, 6, 7, 0, 8, 9] rfl)
              · have h := if_at_t c_47 h
                refine lv_iconst (v := 1) hx hb dX7_isSure_88 (by decide) ?_
                refine lv_goto (tgt := 93) hx hb dX7_isSure_89 (by decide) ?_
                exact hj_31 (1 : Int32) h H locs ls hw (lv_sub hl [1, 2, 3, 4, 5, 6, 7, 0, 8, 9] rfl)
          · intro j_29 hj_29 h
            refine jn1_ok (fun (v_48 : Int32) => ∀ (H : Heap) (locs : List Loc) (ls : Array Slot), InW D (wM cy a) A s.heap H locs S → lv_has ls 12 [(0, .ref (a 0)), (1, .int x1), (2, .int x2), (3, .int x3), (5, .int x5_2), (6, .int x6_26), (7, .int x7_20), (9, .int x9_22), (10, .int x10_25)] → W p l e (rmN 1) s m args below meth c H locs 0 0 (QI below args s D (wM cy a) A r S) (F0 m 75 ls [.int v_48])) ?_ ?_ h
            · intro v_48 h H locs ls hw hl
              refine lv_istore (lv' := [(8, .int v_48), (0, .ref (a 0)), (1, .int x1), (2, .int x2), (3, .int x3), (5, .int x5_2), (6, .int x6_26), (7, .int x7_20), (9, .int x9_22), (10, .int x10_25)]) hx hb dX7_isSure_75 hl (by decide) rfl (fun ls hl => ?_)
              refine lv_iload hx hb dX7_isSure_77 (lv_at hl 7 rfl) ?_
              refine lv_iload hx hb dX7_isSure_79 (lv_at hl 9 rfl) ?_
              refine lv_ishr hx hb dX7_isSure_81 ?_
              refine lv_iconst (v := 1) hx hb dX7_isSure_82 (by decide) ?_
              refine lv_iand hx hb dX7_isSure_83 ?_
              refine lv_iconst (v := 1) hx hb dX7_isSure_84 (by decide) ?_
              refine jn1_ok (fun (v_50 : Int32) => ∀ (H : Heap) (locs : List Loc) (ls : Array Slot), InW D (wM cy a) A s.heap H locs S → lv_has ls 12 [(0, .ref (a 0)), (1, .int x1), (2, .int x2), (3, .int x3), (5, .int x5_2), (6, .int x6_26), (7, .int x7_20), (8, .int v_48), (9, .int x9_22), (10, .int x10_25)] → W p l e (rmN 1) s m args below meth c H locs 0 0 (QI below args s D (wM cy a) A r S) (F0 m 93 ls [.int v_50])) ?_ ?_ h
              · intro v_50 h H locs ls hw hl
                refine lv_istore (lv' := [(11, .int v_50), (0, .ref (a 0)), (1, .int x1), (2, .int x2), (3, .int x3), (5, .int x5_2), (6, .int x6_26), (7, .int x7_20), (8, .int v_48), (9, .int x9_22), (10, .int x10_25)]) hx hb dX7_isSure_93 hl (by decide) rfl (fun ls hl => ?_)
                refine lv_iload hx hb dX7_isSure_95 (lv_at hl 7 rfl) ?_
                refine lv_iload hx hb dX7_isSure_97 (lv_at hl 0 rfl) ?_
                refine jn1_ok (fun (v_52 : Int32) => ∀ (H : Heap) (locs : List Loc) (ls : Array Slot), InW D (wM cy a) A s.heap H locs S → lv_has ls 12 [(0, .ref (a 0)), (1, .int x1), (2, .int x2), (3, .int x3), (5, .int x5_2), (6, .int x6_26), (8, .int v_48), (9, .int x9_22), (10, .int x10_25), (11, .int v_50)] → W p l e (rmN 1) s m args below meth c H locs 0 0 (QI below args s D (wM cy a) A r S) (F0 m 112 ls [.int v_52, .int x7_20])) ?_ ?_ h
                · intro v_52 h H locs ls hw hl
                  refine lv_iand hx hb dX7_isSure_112 ?_
                  refine lv_topi (fun x7_54 ex7_54 => ?_)
                  have h := nm_at ex7_54 h
                  refine lv_istore (lv' := [(7, .int x7_54), (0, .ref (a 0)), (1, .int x1), (2, .int x2), (3, .int x3), (5, .int x5_2), (6, .int x6_26), (8, .int v_48), (9, .int x9_22), (10, .int x10_25), (11, .int v_50)]) hx hb dX7_isSure_113 hl (by decide) rfl (fun ls hl => ?_)
                  refine lv_iload hx hb dX7_isSure_115 (lv_at hl 0 rfl) ?_
                  refine lv_iload hx hb dX7_isSure_117 (lv_at hl 10 rfl) ?_
                  refine jn2_ok (fun (x9_55 : Int32) (v_56 : Int32) => ∀ (H : Heap) (locs : List Loc) (ls : Array Slot), InW D (wM cy a) A s.heap H locs S → lv_has ls 12 [(0, .ref (a 0)), (1, .int x1), (2, .int x2), (3, .int x3), (5, .int x5_2), (6, .int x6_26), (8, .int v_48), (9, .int x9_55)] → W p l e (rmN 1) s m args below meth c H locs 0 0 (QI below args s D (wM cy a) A r S) (F0 m 140 ls [.int v_56])) ?_ ?_ h
                  · intro x9_55 v_56 h H locs ls hw hl
                    refine lv_iconst (v := -1) hx hb dX7_isSure_140 (by decide) ?_
                    refine lv_iand hx hb dX7_isSure_141 ?_
                    refine lv_topi (fun x7_58 ex7_58 => ?_)
                    have h := nm_at ex7_58 h
                    refine lv_istore (lv' := [(7, .int x7_58), (0, .ref (a 0)), (1, .int x1), (2, .int x2), (3, .int x3), (5, .int x5_2), (6, .int x6_26), (8, .int v_48), (9, .int x9_55)]) hx hb dX7_isSure_142 hl (by decide) rfl (fun ls hl => ?_)
                    obtain ⟨x9_59, ex9_59⟩ : ∃ z : Int32, z = x9_55 + (1 : Int32) := ⟨_, rfl⟩
                    have h := nm_at ex9_59 h
                    refine lv_iinc (v := x9_59) (lv' := [(9, .int x9_59), (7, .int x7_58), (0, .ref (a 0)), (1, .int x1), (2, .int x2), (3, .int x3), (5, .int x5_2), (6, .int x6_26), (8, .int v_48)]) hx hb dX7_isSure_144 hl (k := 8) rfl (by rw [ex9_59]; rfl) (by decide) rfl (fun ls hl => ?_)
                    refine lv_goto (tgt := 35) hx hb dX7_isSure_147 (by decide) ?_
                    exact hag_23 x6_26 x7_58 v_48 x9_59 h H locs ls hw (lv_sub hl [2, 3, 4, 5, 6, 7, 1, 8, 0] rfl)
                  · intro j_57 hj_57 h
                    refine jn1_ok (fun (v_60 : Int32) => ∀ (H : Heap) (locs : List Loc) (ls : Array Slot), InW D (wM cy a) A s.heap H locs S → lv_has ls 12 [(0, .ref (a 0)), (1, .int x1), (2, .int x2), (3, .int x3), (5, .int x5_2), (6, .int x6_26), (8, .int v_48), (9, .int x9_22)] → W p l e (rmN 1) s m args below meth c H locs 0 0 (QI below args s D (wM cy a) A r S) (F0 m 141 ls [.int v_60, .int x7_54])) ?_ ?_ h
                    · intro v_60 h H locs ls hw hl
                      refine lv_iand hx hb dX7_isSure_141 ?_
                      refine lv_topi (fun x7_62 ex7_62 => ?_)
                      have h := nm_at ex7_62 h
                      refine lv_istore (lv' := [(7, .int x7_62), (0, .ref (a 0)), (1, .int x1), (2, .int x2), (3, .int x3), (5, .int x5_2), (6, .int x6_26), (8, .int v_48), (9, .int x9_22)]) hx hb dX7_isSure_142 hl (by decide) rfl (fun ls hl => ?_)
                      obtain ⟨x9_63, ex9_63⟩ : ∃ z : Int32, z = x9_22 + (1 : Int32) := ⟨_, rfl⟩
                      have h := nm_at ex9_63 h
                      refine lv_iinc (v := x9_63) (lv' := [(9, .int x9_63), (7, .int x7_62), (0, .ref (a 0)), (1, .int x1), (2, .int x2), (3, .int x3), (5, .int x5_2), (6, .int x6_26), (8, .int v_48)]) hx hb dX7_isSure_144 hl (k := 8) rfl (by rw [ex9_63]; rfl) (by decide) rfl (fun ls hl => ?_)
                      refine lv_goto (tgt := 35) hx hb dX7_isSure_147 (by decide) ?_
                      exact hag_23 x6_26 x7_62 v_48 x9_63 h H locs ls hw (lv_sub hl [2, 3, 4, 5, 6, 7, 1, 8, 0] rfl)
                    · intro j_61 hj_61 h
                      refine lv_if_eq (tgt := 140) hx hb dX7_isSure_119 (by decide) (fun c_64 => ?_) (fun c_64 => ?_)
                      · have h := if_at_t c_64 h
                        exact hj_57 x9_22 x7_54 h H locs ls hw (lv_sub hl [1, 2, 3, 4, 5, 6, 7, 8] rfl)
                      · have h := if_at_f c_64 h
                        refine lv_iload_n hx hb dX7_isSure_122 rfl (lv_at hl 3 rfl) ?_
                        refine lv_if_eq (tgt := 140) hx hb dX7_isSure_123 (by decide) (fun c_65 => ?_) (fun c_65 => ?_)
                        · have h := if_at_t c_65 h
                          exact hj_57 x9_22 x7_54 h H locs ls hw (lv_sub hl [1, 2, 3, 4, 5, 6, 7, 8] rfl)
                        · have h := if_at_f c_65 h
                          refine lv_iconst (v := 1) hx hb dX7_isSure_126 (by decide) ?_
                          refine lv_iload hx hb dX7_isSure_127 (lv_at hl 9 rfl) ?_
                          refine lv_iconst (v := 1) hx hb dX7_isSure_129 (by decide) ?_
                          refine lv_iadd hx hb dX7_isSure_130 ?_
                          refine lv_bipush (v := 6) hx hb dX7_isSure_131 (by decide) ?_
                          refine lv_irem hx hb dX7_isSure_133 (by decide) ?_
                          refine lv_ishl hx hb dX7_isSure_134 ?_
                          refine lv_iconst (v := -1) hx hb dX7_isSure_135 (by decide) ?_
                          refine lv_ixor hx hb dX7_isSure_136 ?_
                          refine lv_goto (tgt := 141) hx hb dX7_isSure_137 (by decide) ?_
                          exact hj_61 ((((1 : Int32) <<< (((x10_25 + (1 : Int32)) - (x10_25 + (1 : Int32)) / (6 : Int32) * (6 : Int32)) &&& (31 : Int32))) ^^^ (-1 : Int32))) h H locs ls hw (lv_sub hl [1, 2, 3, 4, 5, 6, 7, 8] rfl)
                · intro j_53 hj_53 h
                  refine lv_if_eq (tgt := 111) hx hb dX7_isSure_99 (by decide) (fun c_66 => ?_) (fun c_66 => ?_)
                  · have h := if_at_t c_66 h
                    refine lv_iconst (v := -1) hx hb dX7_isSure_111 (by decide) ?_
                    exact hj_53 (-1 : Int32) h H locs ls hw (lv_sub hl [1, 2, 3, 4, 5, 6, 8, 9, 10, 0] rfl)
                  · have h := if_at_f c_66 h
                    refine lv_iconst (v := 1) hx hb dX7_isSure_102 (by decide) ?_
                    refine lv_iload hx hb dX7_isSure_103 (lv_at hl 10 rfl) ?_
                    refine lv_ishl hx hb dX7_isSure_105 ?_
                    refine lv_iconst (v := -1) hx hb dX7_isSure_106 (by decide) ?_
                    refine lv_ixor hx hb dX7_isSure_107 ?_
                    refine lv_goto (tgt := 112) hx hb dX7_isSure_108 (by decide) ?_
                    exact hj_53 ((((1 : Int32) <<< (x10_25 &&& (31 : Int32))) ^^^ (-1 : Int32))) h H locs ls hw (lv_sub hl [1, 2, 3, 4, 5, 6, 8, 9, 10, 0] rfl)
              · intro j_51 hj_51 h
                refine lv_icmp_ne (tgt := 92) hx hb dX7_isSure_85 (by decide) (fun c_67 => ?_) (fun c_67 => ?_)
                · have h := if_at_f c_67 h
                  refine lv_iconst (v := 0) hx hb dX7_isSure_92 (by decide) ?_
                  exact hj_51 (0 : Int32) h H locs ls hw (lv_sub hl [1, 2, 3, 4, 5, 6, 7, 0, 8, 9] rfl)
                · have h := if_at_t c_67 h
                  refine lv_iconst (v := 1) hx hb dX7_isSure_88 (by decide) ?_
                  refine lv_goto (tgt := 93) hx hb dX7_isSure_89 (by decide) ?_
                  exact hj_51 (1 : Int32) h H locs ls hw (lv_sub hl [1, 2, 3, 4, 5, 6, 7, 0, 8, 9] rfl)
            · intro j_49 hj_49 h
              refine lv_if_eq (tgt := 74) hx hb dX7_isSure_57 (by decide) (fun c_68 => ?_) (fun c_68 => ?_)
              · have h := if_at_t c_68 h
                exact hj_29 x7_20 x9_22 h H locs ls hw (lv_sub hl [2, 3, 4, 5, 6, 0, 7, 9, 1] rfl)
              · have h := if_at_f c_68 h
                refine lv_aload_n hx hb dX7_isSure_60 rfl (lv_at hl 2 rfl) ?_
                refine gf (v := .ref (a 2)) hC hw in_X7 0 5 5 (cM_0 cy a S) rfl (by decide) lf_RX7_13 rfl rfl dX7_isSure_61 ?_
                refine lv_iload hx hb dX7_isSure_64 (lv_at hl 1 rfl) ?_
                obtain ⟨hi, h⟩ := gd_at h
                refine ga hC hw 2 (cM_2 cy a S) hi dX7_isSure_66 ?_
                refine lv_if_le (tgt := 74) hx hb dX7_isSure_67 (by decide) (fun c_69 => ?_) (fun c_69 => ?_)
                · have h := if_at_t c_69 h
                  exact hj_29 x7_20 x9_22 h H locs ls hw (lv_sub hl [2, 3, 4, 5, 6, 0, 7, 9, 1] rfl)
                · have h := if_at_f c_69 h
                  refine lv_iconst (v := 1) hx hb dX7_isSure_70 (by decide) ?_
                  refine lv_goto (tgt := 75) hx hb dX7_isSure_71 (by decide) ?_
                  exact hj_49 (1 : Int32) h H locs ls hw (lv_sub hl [2, 3, 4, 5, 6, 0, 7, 9, 1] rfl)
def m_X7_sure_L88 (fu : Nat) (x1 : Int32) (x2 : Int32) (x3 : Int32) (x4_17 : Int32) (S_12 : ST) (j_22 : Option (Int32 × ST)) (j_15 : Int32 → Int32 → Option (Int32 × ST)) (ag_25 : Int32 → Option (Int32 × ST)) (x5_24 : Int32) : Option (Int32 × ST) :=
  (if (64 : Int32) ≤ x5_24 then j_22 else bd (m_X7_ones fu x5_24) (fun v_28 => jn0 (nm (x5_24 + (1 : Int32)) (fun x5_30 => ag_25 x5_30)) (fun j_29 => (if v_28 = x4_17 then jn1 (fun (v_32 : Int32) => bd (m_X7_isSure fu x5_24 v_32 x2 S_12) (fun v_35 => (if v_35 = (0 : Int32) then j_29 else j_15 x4_17 x5_24))) (fun j_33 => (if x1 = (4 : Int32) then j_33 (1 : Int32) else j_33 (0 : Int32))) else j_29))))
def m_X7_sure_L71 (fu : Nat) (x1 : Int32) (x2 : Int32) (x3 : Int32) (S_12 : ST) (j_15 : Int32 → Int32 → Option (Int32 × ST)) (ag_18 : Int32 → Option (Int32 × ST)) (x4_17 : Int32) : Option (Int32 × ST) :=
  jn1 (fun (v_19 : Int32) => (if v_19 < x4_17 then some ((-1 : Int32), S_12) else jn0 (nm (x4_17 + (1 : Int32)) (fun x4_23 => ag_18 x4_23)) (fun j_22 => lq1 (m_X7_sure_L88 fu x1 x2 x3 x4_17 S_12 j_22 j_15) fu (1 : Int32)))) (fun j_20 => (if x1 = (0 : Int32) then j_20 (2 : Int32) else j_20 (3 : Int32)))
def m_X7_sure (fu : Nat) (x1 : Int32) (x2 : Int32) (x3 : Int32) (S : ST) : Option (Int32 × ST) :=
  jn0 (bd (m_X7_in fu ((x2).toInt64) (0 : Int64) (4 : Int64)) (fun v_3 => (if v_3 = (0 : Int32) then some ((-102 : Int32), S) else bd (m_X7_in fu ((x3).toInt64) (0 : Int64) (1 : Int64)) (fun v_6 => (if v_6 = (0 : Int32) then some ((-102 : Int32), S) else bd (m_X7_lacks fu S) (fun v_9 => (if v_9 = (0 : Int32) then (if (stI S 5) = (30 : Int32) then some ((-103 : Int32), S) else nm (puI S 5 (((stI S 5) + (1 : Int32)))) (fun S_12 => jn2 (fun (x4_13 : Int32) (x5_14 : Int32) => (if x3 = (0 : Int32) then some (x4_13, S_12) else some (x5_14, S_12))) (fun j_15 => lq1 (m_X7_sure_L71 fu x1 x2 x3 S_12 j_15) fu (1 : Int32)))) else some ((-103 : Int32), S)))))))) (fun j_1 => (if x1 = (0 : Int32) then j_1 else (if x1 = (3 : Int32) then j_1 else (if x1 = (4 : Int32) then j_1 else some ((-102 : Int32), S)))))
set_option maxRecDepth 100000 in
set_option maxHeartbeats 4000000 in
theorem k_X7_sure (l : Launch) (D : va_G) (cy : ClassId) (a : Nat → Nat) (fu : Nat) (x1 : Int32) (x2 : Int32) (x3 : Int32) (S : ST) (r : Int32) (S' : ST) (h : m_X7_sure fu x1 x2 x3 S = some (r, S')) : CtI l yX7_sure cX7_sure 6 (some .int) 2 [.ref (a 0), .int x1, .int x2, .int x3] D cy (wM cy a) S r S' := by
  refine CtI_of (by decide) (Nat.le_of_ble_eq_true rfl) ?_
  intro p e s m args below meth c A ls hC hr hk hw hl
  have hC : Cx p s m c RX7 cX7_sure 6 args D cy := hC
  have hx := hC.1
  have hb := hC.2.1
  have hl : lv_has ls 6 [(0, .ref (a 0)), (1, .int x1), (2, .int x2), (3, .int x3)] := hl
  obtain ⟨H, eH⟩ : ∃ z : Heap, z = s.heap := ⟨_, rfl⟩
  obtain ⟨locs, elocs⟩ : ∃ z : List Loc, z = [] := ⟨_, rfl⟩
  have hw : InW D (wM cy a) A s.heap H locs S := by rw [eH, elocs]; exact hw
  suffices hsu : W p l e (rmN 2) s m args below meth c H locs 0 0 (QI below args s D (wM cy a) A r S') (F0 m 0 ls []) by rw [eH, elocs] at hsu; exact hsu
  unfold m_X7_sure at h
  refine lv_iload_n hx hb dX7_sure_0 rfl (lv_at hl 1 rfl) ?_
  refine jn0_ok (∀ (H : Heap) (locs : List Loc) (ls : Array Slot), InW D (wM cy a) A s.heap H locs S → lv_has ls 6 [(0, .ref (a 0)), (1, .int x1), (2, .int x2), (3, .int x3)] → W p l e (rmN 2) s m args below meth c H locs 0 0 (QI below args s D (wM cy a) A r S') (F0 m 14 ls [])) ?_ ?_ h
  · intro h H locs ls hw hl
    refine lv_iload_n hx hb dX7_sure_14 rfl (lv_at hl 2 rfl) ?_
    refine lv_i2l hx hb dX7_sure_15 rfl ?_
    refine lv_lconst (v := 0) hx hb dX7_sure_16 (by decide) ?_
    refine lv_ldc2 hx hb hC.2.2.2.1 (hC.2.2.2.2.1 _ lc_RX7_107) dX7_sure_17 ?_
    obtain ⟨v_3, hc_2, h⟩ := bd_at h
    refine caSI (As := [.long (x2).toInt64, .long (0 : Int64), .long (4 : Int64)]) (rest := []) hC hw hl.1 lm_RX7_61 li_RX7 lk_yX7_in ls_yX7_in 3 rfl hd_X7_in (by decide) (by decide) (Nat.le_of_ble_eq_true rfl) dX7_sure_20 (k_X7_in l D cy (wM cy a) S fu ((x2).toInt64) (0 : Int64) (4 : Int64) _ hc_2) (fun H locs hw => ?_)
    refine lv_if_eq (tgt := 36) hx hb dX7_sure_23 (by decide) (fun c_4 => ?_) (fun c_4 => ?_)
    · have h := if_at_t c_4 h
      refine lv_bipush (v := -102) hx hb dX7_sure_36 (by decide) ?_
      exact rtI hC hr hk hw (so_at2 h).1 (so_at2 h).2 dX7_sure_38
    · have h := if_at_f c_4 h
      refine lv_iload_n hx hb dX7_sure_26 rfl (lv_at hl 3 rfl) ?_
      refine lv_i2l hx hb dX7_sure_27 rfl ?_
      refine lv_lconst (v := 0) hx hb dX7_sure_28 (by decide) ?_
      refine lv_lconst (v := 1) hx hb dX7_sure_29 (by decide) ?_
      obtain ⟨v_6, hc_5, h⟩ := bd_at h
      refine caSI (As := [.long (x3).toInt64, .long (0 : Int64), .long (1 : Int64)]) (rest := []) hC hw hl.1 lm_RX7_61 li_RX7 lk_yX7_in ls_yX7_in 3 rfl hd_X7_in (by decide) (by decide) (Nat.le_of_ble_eq_true rfl) dX7_sure_30 (k_X7_in l D cy (wM cy a) S fu ((x3).toInt64) (0 : Int64) (1 : Int64) _ hc_5) (fun H locs hw => ?_)
      refine lv_if_ne (tgt := 39) hx hb dX7_sure_33 (by decide) (fun c_7 => ?_) (fun c_7 => ?_)
      · have h := if_at_f c_7 h
        refine lv_aload_n hx hb dX7_sure_39 rfl (lv_at hl 0 rfl) ?_
        obtain ⟨v_9, hc_8, h⟩ := bd_at h
        refine caVI (As := []) (rest := []) hC hw hl.1 lm_RX7_109 li_RX7 lk_yX7_lacks li_yX7_lacks ll_yX7_lacks 0 5 (cM_0 cy a S) rfl 0 rfl hd_X7_lacks (by decide) (by decide) (Nat.le_of_ble_eq_true rfl) dX7_sure_40 (k_X7_lacks l D cy a fu S _ hc_8) (fun H locs hw => ?_)
        refine lv_if_ne (tgt := 55) hx hb dX7_sure_43 (by decide) (fun c_10 => ?_) (fun c_10 => ?_)
        · have h := if_at_f c_10 h
          refine lv_bipush (v := -103) hx hb dX7_sure_55 (by decide) ?_
          exact rtI hC hr hk hw (so_at2 h).1 (so_at2 h).2 dX7_sure_57
        · have h := if_at_t c_10 h
          refine lv_aload_n hx hb dX7_sure_46 rfl (lv_at hl 0 rfl) ?_
          refine gf (v := .int (stI S 5)) hC hw in_X7 0 5 13 (cM_0 cy a S) rfl (by decide) lf_RX7_166 rfl rfl dX7_sure_47 ?_
          refine lv_bipush (v := 30) hx hb dX7_sure_50 (by decide) ?_
          refine lv_icmp_ne (tgt := 58) hx hb dX7_sure_52 (by decide) (fun c_11 => ?_) (fun c_11 => ?_)
          · have h := if_at_f c_11 h
            refine lv_aload_n hx hb dX7_sure_58 rfl (lv_at hl 0 rfl) ?_
            refine lv_dup hx hb dX7_sure_59 rfl ?_
            refine gf (v := .int (stI S 5)) hC hw in_X7 0 5 13 (cM_0 cy a S) rfl (by decide) lf_RX7_166 rfl rfl dX7_sure_60 ?_
            refine lv_iconst (v := 1) hx hb dX7_sure_63 (by decide) ?_
            refine lv_iadd hx hb dX7_sure_64 ?_
            refine pf (ty := .int) (v := .int (((stI S 5) + (1 : Int32)))) hC hw in_X7 tyX7_ok nmX7 0 5 13 (cM_0 cy a S) rfl (by decide) lf_RX7_166 rfl rfl (by decide +kernel) rfl rfl (Nat.le_of_ble_eq_true rfl) (sM_13 cy a S (((stI S 5) + (1 : Int32)))) dX7_sure_65 (fun H locs hw => ?_)
            obtain ⟨S_12, hw, h⟩ := nmw (P := fun z => InW D (wM cy a) A s.heap H locs z) hw h
            refine lv_iconst (v := 1) hx hb dX7_sure_68 (by decide) ?_
            refine lv_istore (lv' := [(4, .int (1 : Int32)), (0, .ref (a 0)), (1, .int x1), (2, .int x2), (3, .int x3)]) hx hb dX7_sure_69 hl (by decide) rfl (fun ls hl => ?_)
            refine jn2_ok (fun (x4_13 : Int32) (x5_14 : Int32) => ∀ (H : Heap) (locs : List Loc) (ls : Array Slot), InW D (wM cy a) A s.heap H locs S_12 → lv_has ls 6 [(3, .int x3), (4, .int x4_13), (5, .int x5_14)] → W p l e (rmN 2) s m args below meth c H locs 0 0 (QI below args s D (wM cy a) A r S') (F0 m 125 ls [])) ?_ ?_ h
            · intro x4_13 x5_14 h H locs ls hw hl
              refine lv_iload_n hx hb dX7_sure_125 rfl (lv_at hl 0 rfl) ?_
              refine lv_if_ne (tgt := 134) hx hb dX7_sure_126 (by decide) (fun c_16 => ?_) (fun c_16 => ?_)
              · have h := if_at_f c_16 h
                refine lv_iload hx hb dX7_sure_134 (lv_at hl 2 rfl) ?_
                exact rtI hC hr hk hw (so_at2 h).1 (so_at2 h).2 dX7_sure_136
              · have h := if_at_t c_16 h
                refine lv_iload hx hb dX7_sure_129 (lv_at hl 1 rfl) ?_
                refine lv_goto (tgt := 136) hx hb dX7_sure_131 (by decide) ?_
                exact rtI hC hr hk hw (so_at2 h).1 (so_at2 h).2 dX7_sure_136
            · intro j_15 hj_15 h
              refine lq1_ok (fun (x4_17 : Int32) => ∀ (H : Heap) (locs : List Loc) (ls : Array Slot), InW D (wM cy a) A s.heap H locs S_12 → lv_has ls 6 [(0, .ref (a 0)), (1, .int x1), (2, .int x2), (3, .int x3), (4, .int x4_17)] → W p l e (rmN 2) s m args below meth c H locs 0 0 (QI below args s D (wM cy a) A r S') (F0 m 71 ls [])) ?_ fu (1 : Int32) h H locs ls hw (lv_sub hl [1, 2, 3, 4, 0] rfl)
              intro ag_18 hag_18 x4_17 h H locs ls hw hl
              unfold m_X7_sure_L71 at h
              refine lv_iload hx hb dX7_sure_71 (lv_at hl 4 rfl) ?_
              refine lv_iload_n hx hb dX7_sure_73 rfl (lv_at hl 1 rfl) ?_
              refine jn1_ok (fun (v_19 : Int32) => ∀ (H : Heap) (locs : List Loc) (ls : Array Slot), InW D (wM cy a) A s.heap H locs S_12 → lv_has ls 6 [(0, .ref (a 0)), (1, .int x1), (2, .int x2), (3, .int x3), (4, .int x4_17)] → W p l e (rmN 2) s m args below meth c H locs 0 0 (QI below args s D (wM cy a) A r S') (F0 m 82 ls [.int v_19, .int x4_17])) ?_ ?_ h
              · intro v_19 h H locs ls hw hl
                refine lv_icmp_gt (tgt := 149) hx hb dX7_sure_82 (by decide) (fun c_21 => ?_) (fun c_21 => ?_)
                · have h := if_at_t c_21 h
                  refine lv_iconst (v := -1) hx hb dX7_sure_149 (by decide) ?_
                  exact rtI hC hr hk hw (so_at2 h).1 (so_at2 h).2 dX7_sure_150
                · have h := if_at_f c_21 h
                  refine lv_iconst (v := 1) hx hb dX7_sure_85 (by decide) ?_
                  refine lv_istore (lv' := [(5, .int (1 : Int32)), (0, .ref (a 0)), (1, .int x1), (2, .int x2), (3, .int x3), (4, .int x4_17)]) hx hb dX7_sure_86 hl (by decide) rfl (fun ls hl => ?_)
                  refine jn0_ok (∀ (H : Heap) (locs : List Loc) (ls : Array Slot), InW D (wM cy a) A s.heap H locs S_12 → lv_has ls 6 [(0, .ref (a 0)), (1, .int x1), (2, .int x2), (3, .int x3), (4, .int x4_17)] → W p l e (rmN 2) s m args below meth c H locs 0 0 (QI below args s D (wM cy a) A r S') (F0 m 143 ls [])) ?_ ?_ h
                  · intro h H locs ls hw hl
                    obtain ⟨x4_23, ex4_23⟩ : ∃ z : Int32, z = x4_17 + (1 : Int32) := ⟨_, rfl⟩
                    have h := nm_at ex4_23 h
                    refine lv_iinc (v := x4_23) (lv' := [(4, .int x4_23), (0, .ref (a 0)), (1, .int x1), (2, .int x2), (3, .int x3)]) hx hb dX7_sure_143 hl (k := 4) rfl (by rw [ex4_23]; rfl) (by decide) rfl (fun ls hl => ?_)
                    refine lv_goto (tgt := 71) hx hb dX7_sure_146 (by decide) ?_
                    exact hag_18 x4_23 h H locs ls hw (lv_sub hl [1, 2, 3, 4, 0] rfl)
                  · intro j_22 hj_22 h
                    refine lq1_ok (fun (x5_24 : Int32) => ∀ (H : Heap) (locs : List Loc) (ls : Array Slot), InW D (wM cy a) A s.heap H locs S_12 → lv_has ls 6 [(0, .ref (a 0)), (1, .int x1), (2, .int x2), (3, .int x3), (4, .int x4_17), (5, .int x5_24)] → W p l e (rmN 2) s m args below meth c H locs 0 0 (QI below args s D (wM cy a) A r S') (F0 m 88 ls [])) ?_ fu (1 : Int32) h H locs ls hw (lv_sub hl [1, 2, 3, 4, 5, 0] rfl)
                    intro ag_25 hag_25 x5_24 h H locs ls hw hl
                    unfold m_X7_sure_L88 at h
                    refine lv_iload hx hb dX7_sure_88 (lv_at hl 5 rfl) ?_
                    refine lv_bipush (v := 64) hx hb dX7_sure_90 (by decide) ?_
                    refine lv_icmp_ge (tgt := 143) hx hb dX7_sure_92 (by decide) (fun c_26 => ?_) (fun c_26 => ?_)
                    · have h := if_at_t c_26 h
                      exact hj_22 h H locs ls hw (lv_sub hl [0, 1, 2, 3, 4] rfl)
                    · have h := if_at_f c_26 h
                      refine lv_iload hx hb dX7_sure_95 (lv_at hl 5 rfl) ?_
                      obtain ⟨v_28, hc_27, h⟩ := bd_at h
                      refine caSI (As := [.int x5_24]) (rest := []) hC hw hl.1 lm_RX7_123 li_RX7 lk_yX7_ones ls_yX7_ones 1 rfl hd_X7_ones (by decide) (by decide) (Nat.le_of_ble_eq_true rfl) dX7_sure_97 (k_X7_ones l D cy (wM cy a) S_12 fu x5_24 _ hc_27) (fun H locs hw => ?_)
                      refine lv_iload hx hb dX7_sure_100 (lv_at hl 4 rfl) ?_
                      refine jn0_ok (∀ (H : Heap) (locs : List Loc) (ls : Array Slot), InW D (wM cy a) A s.heap H locs S_12 → lv_has ls 6 [(0, .ref (a 0)), (1, .int x1), (2, .int x2), (3, .int x3), (4, .int x4_17), (5, .int x5_24)] → W p l e (rmN 2) s m args below meth c H locs 0 0 (QI below args s D (wM cy a) A r S') (F0 m 137 ls [])) ?_ ?_ h
                      · intro h H locs ls hw hl
                        obtain ⟨x5_30, ex5_30⟩ : ∃ z : Int32, z = x5_24 + (1 : Int32) := ⟨_, rfl⟩
                        have h := nm_at ex5_30 h
                        refine lv_iinc (v := x5_30) (lv' := [(5, .int x5_30), (0, .ref (a 0)), (1, .int x1), (2, .int x2), (3, .int x3), (4, .int x4_17)]) hx hb dX7_sure_137 hl (k := 5) rfl (by rw [ex5_30]; rfl) (by decide) rfl (fun ls hl => ?_)
                        refine lv_goto (tgt := 88) hx hb dX7_sure_140 (by decide) ?_
                        exact hag_25 x5_30 h H locs ls hw (lv_sub hl [1, 2, 3, 4, 5, 0] rfl)
                      · intro j_29 hj_29 h
                        refine lv_icmp_ne (tgt := 137) hx hb dX7_sure_102 (by decide) (fun c_31 => ?_) (fun c_31 => ?_)
                        · have h := if_at_f c_31 h
                          exact hj_29 h H locs ls hw (lv_sub hl [0, 1, 2, 3, 4, 5] rfl)
                        · have h := if_at_t c_31 h
                          refine lv_aload_n hx hb dX7_sure_105 rfl (lv_at hl 0 rfl) ?_
                          refine lv_iload hx hb dX7_sure_106 (lv_at hl 5 rfl) ?_
                          refine lv_iload_n hx hb dX7_sure_108 rfl (lv_at hl 1 rfl) ?_
                          refine lv_iconst (v := 4) hx hb dX7_sure_109 (by decide) ?_
                          refine jn1_ok (fun (v_32 : Int32) => ∀ (H : Heap) (locs : List Loc) (ls : Array Slot), InW D (wM cy a) A s.heap H locs S_12 → lv_has ls 6 [(0, .ref (a 0)), (1, .int x1), (2, .int x2), (3, .int x3), (4, .int x4_17), (5, .int x5_24)] → W p l e (rmN 2) s m args below meth c H locs 0 0 (QI below args s D (wM cy a) A r S') (F0 m 118 ls [.int v_32, .int x5_24, .ref (a 0)])) ?_ ?_ h
                          · intro v_32 h H locs ls hw hl
                            refine lv_iload_n hx hb dX7_sure_118 rfl (lv_at hl 2 rfl) ?_
                            obtain ⟨v_35, hc_34, h⟩ := bd_at h
                            refine caVI (As := [.int x5_24, .int v_32, .int x2]) (rest := []) hC hw hl.1 lm_RX7_169 li_RX7 lk_yX7_isSure li_yX7_isSure ll_yX7_isSure 0 5 (cM_0 cy a S_12) rfl 3 rfl hd_X7_isSure (by decide) (by decide) (Nat.le_of_ble_eq_true rfl) dX7_sure_119 (k_X7_isSure l D cy a fu x5_24 v_32 x2 S_12 _ hc_34) (fun H locs hw => ?_)
                            refine lv_if_eq (tgt := 137) hx hb dX7_sure_122 (by decide) (fun c_36 => ?_) (fun c_36 => ?_)
                            · have h := if_at_t c_36 h
                              exact hj_29 h H locs ls hw (lv_sub hl [0, 1, 2, 3, 4, 5] rfl)
                            · have h := if_at_f c_36 h
                              exact hj_15 x4_17 x5_24 h H locs ls hw (lv_sub hl [3, 4, 5] rfl)
                          · intro j_33 hj_33 h
                            refine lv_icmp_ne (tgt := 117) hx hb dX7_sure_110 (by decide) (fun c_37 => ?_) (fun c_37 => ?_)
                            · have h := if_at_f c_37 h
                              refine lv_iconst (v := 0) hx hb dX7_sure_117 (by decide) ?_
                              exact hj_33 (0 : Int32) h H locs ls hw (lv_sub hl [0, 1, 2, 3, 4, 5] rfl)
                            · have h := if_at_t c_37 h
                              refine lv_iconst (v := 1) hx hb dX7_sure_113 (by decide) ?_
                              refine lv_goto (tgt := 118) hx hb dX7_sure_114 (by decide) ?_
                              exact hj_33 (1 : Int32) h H locs ls hw (lv_sub hl [0, 1, 2, 3, 4, 5] rfl)
              · intro j_20 hj_20 h
                refine lv_if_ne (tgt := 81) hx hb dX7_sure_74 (by decide) (fun c_38 => ?_) (fun c_38 => ?_)
                · have h := if_at_f c_38 h
                  refine lv_iconst (v := 3) hx hb dX7_sure_81 (by decide) ?_
                  exact hj_20 (3 : Int32) h H locs ls hw (lv_sub hl [0, 1, 2, 3, 4] rfl)
                · have h := if_at_t c_38 h
                  refine lv_iconst (v := 2) hx hb dX7_sure_77 (by decide) ?_
                  refine lv_goto (tgt := 82) hx hb dX7_sure_78 (by decide) ?_
                  exact hj_20 (2 : Int32) h H locs ls hw (lv_sub hl [0, 1, 2, 3, 4] rfl)
          · have h := if_at_t c_11 h
            refine lv_bipush (v := -103) hx hb dX7_sure_55 (by decide) ?_
            exact rtI hC hr hk hw (so_at2 h).1 (so_at2 h).2 dX7_sure_57
      · have h := if_at_t c_7 h
        refine lv_bipush (v := -102) hx hb dX7_sure_36 (by decide) ?_
        exact rtI hC hr hk hw (so_at2 h).1 (so_at2 h).2 dX7_sure_38
  · intro j_1 hj_1 h
    refine lv_if_eq (tgt := 14) hx hb dX7_sure_1 (by decide) (fun c_39 => ?_) (fun c_39 => ?_)
    · have h := if_at_t c_39 h
      exact hj_1 h H locs ls hw (lv_sub hl [0, 1, 2, 3] rfl)
    · have h := if_at_f c_39 h
      refine lv_iload_n hx hb dX7_sure_4 rfl (lv_at hl 1 rfl) ?_
      refine lv_iconst (v := 3) hx hb dX7_sure_5 (by decide) ?_
      refine lv_icmp_eq (tgt := 14) hx hb dX7_sure_6 (by decide) (fun c_40 => ?_) (fun c_40 => ?_)
      · have h := if_at_t c_40 h
        exact hj_1 h H locs ls hw (lv_sub hl [0, 1, 2, 3] rfl)
      · have h := if_at_f c_40 h
        refine lv_iload_n hx hb dX7_sure_9 rfl (lv_at hl 1 rfl) ?_
        refine lv_iconst (v := 4) hx hb dX7_sure_10 (by decide) ?_
        refine lv_icmp_ne (tgt := 36) hx hb dX7_sure_11 (by decide) (fun c_41 => ?_) (fun c_41 => ?_)
        · have h := if_at_f c_41 h
          refine lv_bipush (v := -102) hx hb dX7_sure_36 (by decide) ?_
          exact rtI hC hr hk hw (so_at2 h).1 (so_at2 h).2 dX7_sure_38
        · have h := if_at_t c_41 h
          exact hj_1 h H locs ls hw (lv_sub hl [0, 1, 2, 3] rfl)
def m_X7_nowhereOf_L4 (fu : Nat) (S : ST) (ag_3 : Int32 → Int32 → Option Int32) (x1_1 : Int32) (x2_2 : Int32) : Option Int32 :=
  (if (stI S 4) ≤ x2_2 then some x1_1 else gd (inB ((((2 : Int32) * x2_2) + (1 : Int32))) 10) (nm ((rdA S 2 ((((2 : Int32) * x2_2) + (1 : Int32))))) (fun x3_5 => gd (inB x2_2 5) (jn2 (fun (x2_6 : Int32) (v_7 : Int32) => nm ((v_7 ||| (0 : Int32))) (fun x1_9 => nm (x2_6 + (1 : Int32)) (fun x2_10 => ag_3 x1_9 x2_10))) (fun j_8 => jn1 (fun (v_11 : Int32) => nm ((x1_1 ||| v_11)) (fun x1_13 => nm (x2_2 + (1 : Int32)) (fun x2_14 => ag_3 x1_13 x2_14))) (fun j_12 => (if (rdA S 3 x2_2) = (0 : Int32) then j_8 x2_2 x1_1 else (if x3_5 = (-1 : Int32) then j_8 x2_2 x1_1 else gd (inB x3_5 5) ((if (rdA S 3 x3_5) = (0 : Int32) then j_12 (((1 : Int32) <<< (x2_2 &&& (31 : Int32)))) else j_8 x2_2 x1_1))))))))))
def m_X7_nowhereOf (fu : Nat) (S : ST) : Option Int32 :=
  lq2 (m_X7_nowhereOf_L4 fu S) fu (0 : Int32) (0 : Int32)
set_option maxRecDepth 100000 in
set_option maxHeartbeats 4000000 in
theorem k_X7_nowhereOf (l : Launch) (D : va_G) (cy : ClassId) (a : Nat → Nat) (fu : Nat) (S : ST) (r : Int32) (h : m_X7_nowhereOf fu S = some r) : CtI l yX7_nowhereOf cX7_nowhereOf 4 (some .int) 0 [.ref (a 0)] D cy (wM cy a) S r S := by
  refine CtI_of (by decide) (Nat.le_of_ble_eq_true rfl) ?_
  intro p e s m args below meth c A ls hC hr hk hw hl
  have hC : Cx p s m c RX7 cX7_nowhereOf 4 args D cy := hC
  have hx := hC.1
  have hb := hC.2.1
  have hl : lv_has ls 4 [(0, .ref (a 0))] := hl
  obtain ⟨H, eH⟩ : ∃ z : Heap, z = s.heap := ⟨_, rfl⟩
  obtain ⟨locs, elocs⟩ : ∃ z : List Loc, z = [] := ⟨_, rfl⟩
  have hw : InW D (wM cy a) A s.heap H locs S := by rw [eH, elocs]; exact hw
  suffices hsu : W p l e (rmN 0) s m args below meth c H locs 0 0 (QI below args s D (wM cy a) A r S) (F0 m 0 ls []) by rw [eH, elocs] at hsu; exact hsu
  unfold m_X7_nowhereOf at h
  refine lv_iconst (v := 0) hx hb dX7_nowhereOf_0 (by decide) ?_
  refine lv_istore_n (lv' := [(1, .int (0 : Int32)), (0, .ref (a 0))]) hx hb dX7_nowhereOf_1 rfl hl (by decide) rfl (fun ls hl => ?_)
  refine lv_iconst (v := 0) hx hb dX7_nowhereOf_2 (by decide) ?_
  refine lv_istore_n (lv' := [(2, .int (0 : Int32)), (1, .int (0 : Int32)), (0, .ref (a 0))]) hx hb dX7_nowhereOf_3 rfl hl (by decide) rfl (fun ls hl => ?_)
  refine lq2_ok (fun (x1_1 : Int32) (x2_2 : Int32) => ∀ (H : Heap) (locs : List Loc) (ls : Array Slot), InW D (wM cy a) A s.heap H locs S → lv_has ls 4 [(0, .ref (a 0)), (1, .int x1_1), (2, .int x2_2)] → W p l e (rmN 0) s m args below meth c H locs 0 0 (QI below args s D (wM cy a) A r S) (F0 m 4 ls [])) ?_ fu (0 : Int32) (0 : Int32) h H locs ls hw (lv_sub hl [2, 1, 0] rfl)
  intro ag_3 hag_3 x1_1 x2_2 h H locs ls hw hl
  unfold m_X7_nowhereOf_L4 at h
  refine lv_iload_n hx hb dX7_nowhereOf_4 rfl (lv_at hl 2 rfl) ?_
  refine lv_aload_n hx hb dX7_nowhereOf_5 rfl (lv_at hl 0 rfl) ?_
  refine gf (v := .int (stI S 4)) hC hw in_X7 0 5 6 (cM_0 cy a S) rfl (by decide) lf_RX7_81 rfl rfl dX7_nowhereOf_6 ?_
  refine lv_icmp_ge (tgt := 62) hx hb dX7_nowhereOf_9 (by decide) (fun c_4 => ?_) (fun c_4 => ?_)
  · have h := if_at_t c_4 h
    refine lv_iload_n hx hb dX7_nowhereOf_62 rfl (lv_at hl 1 rfl) ?_
    exact rtI hC hr hk hw (so_at h) rfl dX7_nowhereOf_63
  · have h := if_at_f c_4 h
    refine lv_aload_n hx hb dX7_nowhereOf_12 rfl (lv_at hl 0 rfl) ?_
    refine gf (v := .ref (a 3)) hC hw in_X7 0 5 7 (cM_0 cy a S) rfl (by decide) lf_RX7_16 rfl rfl dX7_nowhereOf_13 ?_
    refine lv_iconst (v := 2) hx hb dX7_nowhereOf_16 (by decide) ?_
    refine lv_iload_n hx hb dX7_nowhereOf_17 rfl (lv_at hl 2 rfl) ?_
    refine lv_imul hx hb dX7_nowhereOf_18 ?_
    refine lv_iconst (v := 1) hx hb dX7_nowhereOf_19 (by decide) ?_
    refine lv_iadd hx hb dX7_nowhereOf_20 ?_
    obtain ⟨hi, h⟩ := gd_at h
    refine ga hC hw 3 (cM_3 cy a S) hi dX7_nowhereOf_21 ?_
    refine lv_topi (fun x3_5 ex3_5 => ?_)
    have h := nm_at ex3_5 h
    refine lv_istore_n (lv' := [(3, .int x3_5), (0, .ref (a 0)), (1, .int x1_1), (2, .int x2_2)]) hx hb dX7_nowhereOf_22 rfl hl (by decide) rfl (fun ls hl => ?_)
    refine lv_iload_n hx hb dX7_nowhereOf_23 rfl (lv_at hl 2 rfl) ?_
    refine lv_aload_n hx hb dX7_nowhereOf_24 rfl (lv_at hl 1 rfl) ?_
    refine gf (v := .ref (a 4)) hC hw in_X7 0 5 8 (cM_0 cy a S) rfl (by decide) lf_RX7_19 rfl rfl dX7_nowhereOf_25 ?_
    refine lv_iload_n hx hb dX7_nowhereOf_28 rfl (lv_at hl 3 rfl) ?_
    obtain ⟨hi, h⟩ := gd_at h
    refine ga hC hw 4 (cM_4 cy a S) hi dX7_nowhereOf_29 ?_
    refine jn2_ok (fun (x2_6 : Int32) (v_7 : Int32) => ∀ (H : Heap) (locs : List Loc) (ls : Array Slot), InW D (wM cy a) A s.heap H locs S → lv_has ls 4 [(0, .ref (a 0)), (2, .int x2_6)] → W p l e (rmN 0) s m args below meth c H locs 0 0 (QI below args s D (wM cy a) A r S) (F0 m 53 ls [.int v_7])) ?_ ?_ h
    · intro x2_6 v_7 h H locs ls hw hl
      refine lv_iconst (v := 0) hx hb dX7_nowhereOf_53 (by decide) ?_
      refine lv_ior hx hb dX7_nowhereOf_54 ?_
      refine lv_topi (fun x1_9 ex1_9 => ?_)
      have h := nm_at ex1_9 h
      refine lv_istore_n (lv' := [(1, .int x1_9), (0, .ref (a 0)), (2, .int x2_6)]) hx hb dX7_nowhereOf_55 rfl hl (by decide) rfl (fun ls hl => ?_)
      obtain ⟨x2_10, ex2_10⟩ : ∃ z : Int32, z = x2_6 + (1 : Int32) := ⟨_, rfl⟩
      have h := nm_at ex2_10 h
      refine lv_iinc (v := x2_10) (lv' := [(2, .int x2_10), (1, .int x1_9), (0, .ref (a 0))]) hx hb dX7_nowhereOf_56 hl (k := 2) rfl (by rw [ex2_10]; rfl) (by decide) rfl (fun ls hl => ?_)
      refine lv_goto (tgt := 4) hx hb dX7_nowhereOf_59 (by decide) ?_
      exact hag_3 x1_9 x2_10 h H locs ls hw (lv_sub hl [2, 1, 0] rfl)
    · intro j_8 hj_8 h
      refine jn1_ok (fun (v_11 : Int32) => ∀ (H : Heap) (locs : List Loc) (ls : Array Slot), InW D (wM cy a) A s.heap H locs S → lv_has ls 4 [(0, .ref (a 0)), (2, .int x2_2)] → W p l e (rmN 0) s m args below meth c H locs 0 0 (QI below args s D (wM cy a) A r S) (F0 m 54 ls [.int v_11, .int x1_1])) ?_ ?_ h
      · intro v_11 h H locs ls hw hl
        refine lv_ior hx hb dX7_nowhereOf_54 ?_
        refine lv_topi (fun x1_13 ex1_13 => ?_)
        have h := nm_at ex1_13 h
        refine lv_istore_n (lv' := [(1, .int x1_13), (0, .ref (a 0)), (2, .int x2_2)]) hx hb dX7_nowhereOf_55 rfl hl (by decide) rfl (fun ls hl => ?_)
        obtain ⟨x2_14, ex2_14⟩ : ∃ z : Int32, z = x2_2 + (1 : Int32) := ⟨_, rfl⟩
        have h := nm_at ex2_14 h
        refine lv_iinc (v := x2_14) (lv' := [(2, .int x2_14), (1, .int x1_13), (0, .ref (a 0))]) hx hb dX7_nowhereOf_56 hl (k := 2) rfl (by rw [ex2_14]; rfl) (by decide) rfl (fun ls hl => ?_)
        refine lv_goto (tgt := 4) hx hb dX7_nowhereOf_59 (by decide) ?_
        exact hag_3 x1_13 x2_14 h H locs ls hw (lv_sub hl [2, 1, 0] rfl)
      · intro j_12 hj_12 h
        refine lv_if_eq (tgt := 53) hx hb dX7_nowhereOf_30 (by decide) (fun c_15 => ?_) (fun c_15 => ?_)
        · have h := if_at_t c_15 h
          exact hj_8 x2_2 x1_1 h H locs ls hw (lv_sub hl [1, 3] rfl)
        · have h := if_at_f c_15 h
          refine lv_iload_n hx hb dX7_nowhereOf_33 rfl (lv_at hl 0 rfl) ?_
          refine lv_iconst (v := -1) hx hb dX7_nowhereOf_34 (by decide) ?_
          refine lv_icmp_eq (tgt := 53) hx hb dX7_nowhereOf_35 (by decide) (fun c_16 => ?_) (fun c_16 => ?_)
          · have h := if_at_t c_16 h
            exact hj_8 x2_2 x1_1 h H locs ls hw (lv_sub hl [1, 3] rfl)
          · have h := if_at_f c_16 h
            refine lv_aload_n hx hb dX7_nowhereOf_38 rfl (lv_at hl 1 rfl) ?_
            refine gf (v := .ref (a 4)) hC hw in_X7 0 5 8 (cM_0 cy a S) rfl (by decide) lf_RX7_19 rfl rfl dX7_nowhereOf_39 ?_
            refine lv_iload_n hx hb dX7_nowhereOf_42 rfl (lv_at hl 0 rfl) ?_
            obtain ⟨hi, h⟩ := gd_at h
            refine ga hC hw 4 (cM_4 cy a S) hi dX7_nowhereOf_43 ?_
            refine lv_if_ne (tgt := 53) hx hb dX7_nowhereOf_44 (by decide) (fun c_17 => ?_) (fun c_17 => ?_)
            · have h := if_at_f c_17 h
              exact hj_8 x2_2 x1_1 h H locs ls hw (lv_sub hl [1, 3] rfl)
            · have h := if_at_t c_17 h
              refine lv_iconst (v := 1) hx hb dX7_nowhereOf_47 (by decide) ?_
              refine lv_iload_n hx hb dX7_nowhereOf_48 rfl (lv_at hl 3 rfl) ?_
              refine lv_ishl hx hb dX7_nowhereOf_49 ?_
              refine lv_goto (tgt := 54) hx hb dX7_nowhereOf_50 (by decide) ?_
              exact hj_12 (((1 : Int32) <<< (x2_2 &&& (31 : Int32)))) h H locs ls hw (lv_sub hl [1, 3] rfl)
def m_X7_nowhere (fu : Nat) (S : ST) : Option Int32 :=
  bd (m_X7_nowhereOf fu S) (fun v_2 => some v_2)
set_option maxRecDepth 100000 in
set_option maxHeartbeats 4000000 in
theorem k_X7_nowhere (l : Launch) (D : va_G) (cy : ClassId) (a : Nat → Nat) (fu : Nat) (S : ST) (r : Int32) (h : m_X7_nowhere fu S = some r) : CtI l yX7_nowhere cX7_nowhere 1 (some .int) 1 [.ref (a 0)] D cy (wM cy a) S r S := by
  refine CtI_of (by decide) (Nat.le_of_ble_eq_true rfl) ?_
  intro p e s m args below meth c A ls hC hr hk hw hl
  have hC : Cx p s m c RX7 cX7_nowhere 1 args D cy := hC
  have hx := hC.1
  have hb := hC.2.1
  have hl : lv_has ls 1 [(0, .ref (a 0))] := hl
  obtain ⟨H, eH⟩ : ∃ z : Heap, z = s.heap := ⟨_, rfl⟩
  obtain ⟨locs, elocs⟩ : ∃ z : List Loc, z = [] := ⟨_, rfl⟩
  have hw : InW D (wM cy a) A s.heap H locs S := by rw [eH, elocs]; exact hw
  suffices hsu : W p l e (rmN 1) s m args below meth c H locs 0 0 (QI below args s D (wM cy a) A r S) (F0 m 0 ls []) by rw [eH, elocs] at hsu; exact hsu
  unfold m_X7_nowhere at h
  refine lv_aload_n hx hb dX7_nowhere_0 rfl (lv_at hl 0 rfl) ?_
  obtain ⟨v_2, hc_1, h⟩ := bd_at h
  refine caVI (As := []) (rest := []) hC hw hl.1 lm_RX7_173 li_RX7 lk_yX7_nowhereOf li_yX7_nowhereOf ll_yX7_nowhereOf 0 5 (cM_0 cy a S) rfl 0 rfl hd_X7_nowhereOf (by decide) (by decide) (Nat.le_of_ble_eq_true rfl) dX7_nowhere_1 (k_X7_nowhereOf l D cy a fu S _ hc_1) (fun H locs hw => ?_)
  exact rtI hC hr hk hw (so_at h) rfl dX7_nowhere_4
def m_X7_above_L4 (fu : Nat) (x1 : Int32) (S : ST) (ag_3 : Int32 → Int32 → Option Int32) (x2_1 : Int32) (x3_2 : Int32) : Option Int32 :=
  (if (6 : Int32) ≤ x3_2 then some x2_1 else bd (m_X7_fullness_6 fu x3_2 S) (fun v_6 => jn1 (fun (v_7 : Int32) => nm ((x2_1 + v_7)) (fun x2_9 => nm (x3_2 + (1 : Int32)) (fun x3_10 => ag_3 x2_9 x3_10))) (fun j_8 => (if v_6 ≤ x1 then j_8 (0 : Int32) else j_8 ((v_6 - x1))))))
def m_X7_above (fu : Nat) (x1 : Int32) (S : ST) : Option Int32 :=
  lq2 (m_X7_above_L4 fu x1 S) fu (0 : Int32) (0 : Int32)
set_option maxRecDepth 100000 in
set_option maxHeartbeats 4000000 in
theorem k_X7_above (l : Launch) (D : va_G) (cy : ClassId) (a : Nat → Nat) (fu : Nat) (x1 : Int32) (S : ST) (r : Int32) (h : m_X7_above fu x1 S = some r) : CtI l yX7_above cX7_above 5 (some .int) 1 [.ref (a 0), .int x1] D cy (wM cy a) S r S := by
  refine CtI_of (by decide) (Nat.le_of_ble_eq_true rfl) ?_
  intro p e s m args below meth c A ls hC hr hk hw hl
  have hC : Cx p s m c RX7 cX7_above 5 args D cy := hC
  have hx := hC.1
  have hb := hC.2.1
  have hl : lv_has ls 5 [(0, .ref (a 0)), (1, .int x1)] := hl
  obtain ⟨H, eH⟩ : ∃ z : Heap, z = s.heap := ⟨_, rfl⟩
  obtain ⟨locs, elocs⟩ : ∃ z : List Loc, z = [] := ⟨_, rfl⟩
  have hw : InW D (wM cy a) A s.heap H locs S := by rw [eH, elocs]; exact hw
  suffices hsu : W p l e (rmN 1) s m args below meth c H locs 0 0 (QI below args s D (wM cy a) A r S) (F0 m 0 ls []) by rw [eH, elocs] at hsu; exact hsu
  unfold m_X7_above at h
  refine lv_iconst (v := 0) hx hb dX7_above_0 (by decide) ?_
  refine lv_istore_n (lv' := [(2, .int (0 : Int32)), (0, .ref (a 0)), (1, .int x1)]) hx hb dX7_above_1 rfl hl (by decide) rfl (fun ls hl => ?_)
  refine lv_iconst (v := 0) hx hb dX7_above_2 (by decide) ?_
  refine lv_istore_n (lv' := [(3, .int (0 : Int32)), (2, .int (0 : Int32)), (0, .ref (a 0)), (1, .int x1)]) hx hb dX7_above_3 rfl hl (by decide) rfl (fun ls hl => ?_)
  refine lq2_ok (fun (x2_1 : Int32) (x3_2 : Int32) => ∀ (H : Heap) (locs : List Loc) (ls : Array Slot), InW D (wM cy a) A s.heap H locs S → lv_has ls 5 [(0, .ref (a 0)), (1, .int x1), (2, .int x2_1), (3, .int x3_2)] → W p l e (rmN 1) s m args below meth c H locs 0 0 (QI below args s D (wM cy a) A r S) (F0 m 4 ls [])) ?_ fu (0 : Int32) (0 : Int32) h H locs ls hw (lv_sub hl [2, 3, 1, 0] rfl)
  intro ag_3 hag_3 x2_1 x3_2 h H locs ls hw hl
  unfold m_X7_above_L4 at h
  refine lv_iload_n hx hb dX7_above_4 rfl (lv_at hl 3 rfl) ?_
  refine lv_bipush (v := 6) hx hb dX7_above_5 (by decide) ?_
  refine lv_icmp_ge (tgt := 44) hx hb dX7_above_7 (by decide) (fun c_4 => ?_) (fun c_4 => ?_)
  · have h := if_at_t c_4 h
    refine lv_iload_n hx hb dX7_above_44 rfl (lv_at hl 2 rfl) ?_
    exact rtI hC hr hk hw (so_at h) rfl dX7_above_45
  · have h := if_at_f c_4 h
    refine lv_aload_n hx hb dX7_above_10 rfl (lv_at hl 0 rfl) ?_
    refine lv_aload_n hx hb dX7_above_11 rfl (lv_at hl 0 rfl) ?_
    refine gf (v := .ref (a 6)) hC hw in_X7 0 5 10 (cM_0 cy a S) rfl (by decide) lf_RX7_25 rfl rfl dX7_above_12 ?_
    refine lv_iload_n hx hb dX7_above_15 rfl (lv_at hl 3 rfl) ?_
    obtain ⟨v_6, hc_5, h⟩ := bd_at h
    refine caVI (As := [.ref (a 6), .int x3_2]) (rest := []) hC hw hl.1 lm_RX7_95 li_RX7 lk_yX7_fullness li_yX7_fullness ll_yX7_fullness 0 5 (cM_0 cy a S) rfl 2 rfl hd_X7_fullness (by decide) (by decide) (Nat.le_of_ble_eq_true rfl) dX7_above_16 (k_X7_fullness_6 l D cy a fu x3_2 S _ hc_5) (fun H locs hw => ?_)
    refine lv_istore (lv' := [(4, .int v_6), (0, .ref (a 0)), (1, .int x1), (2, .int x2_1), (3, .int x3_2)]) hx hb dX7_above_19 hl (by decide) rfl (fun ls hl => ?_)
    refine lv_iload_n hx hb dX7_above_21 rfl (lv_at hl 3 rfl) ?_
    refine lv_iload hx hb dX7_above_22 (lv_at hl 0 rfl) ?_
    refine lv_iload_n hx hb dX7_above_24 rfl (lv_at hl 2 rfl) ?_
    refine jn1_ok (fun (v_7 : Int32) => ∀ (H : Heap) (locs : List Loc) (ls : Array Slot), InW D (wM cy a) A s.heap H locs S → lv_has ls 5 [(0, .ref (a 0)), (1, .int x1), (3, .int x3_2)] → W p l e (rmN 1) s m args below meth c H locs 0 0 (QI below args s D (wM cy a) A r S) (F0 m 36 ls [.int v_7, .int x2_1])) ?_ ?_ h
    · intro v_7 h H locs ls hw hl
      refine lv_iadd hx hb dX7_above_36 ?_
      refine lv_topi (fun x2_9 ex2_9 => ?_)
      have h := nm_at ex2_9 h
      refine lv_istore_n (lv' := [(2, .int x2_9), (0, .ref (a 0)), (1, .int x1), (3, .int x3_2)]) hx hb dX7_above_37 rfl hl (by decide) rfl (fun ls hl => ?_)
      obtain ⟨x3_10, ex3_10⟩ : ∃ z : Int32, z = x3_2 + (1 : Int32) := ⟨_, rfl⟩
      have h := nm_at ex3_10 h
      refine lv_iinc (v := x3_10) (lv' := [(3, .int x3_10), (2, .int x2_9), (0, .ref (a 0)), (1, .int x1)]) hx hb dX7_above_38 hl (k := 3) rfl (by rw [ex3_10]; rfl) (by decide) rfl (fun ls hl => ?_)
      refine lv_goto (tgt := 4) hx hb dX7_above_41 (by decide) ?_
      exact hag_3 x2_9 x3_10 h H locs ls hw (lv_sub hl [2, 3, 1, 0] rfl)
    · intro j_8 hj_8 h
      refine lv_icmp_le (tgt := 35) hx hb dX7_above_25 (by decide) (fun c_11 => ?_) (fun c_11 => ?_)
      · have h := if_at_t c_11 h
        refine lv_iconst (v := 0) hx hb dX7_above_35 (by decide) ?_
        exact hj_8 (0 : Int32) h H locs ls hw (lv_sub hl [1, 2, 4] rfl)
      · have h := if_at_f c_11 h
        refine lv_iload hx hb dX7_above_28 (lv_at hl 0 rfl) ?_
        refine lv_iload_n hx hb dX7_above_30 rfl (lv_at hl 2 rfl) ?_
        refine lv_isub hx hb dX7_above_31 ?_
        refine lv_goto (tgt := 36) hx hb dX7_above_32 (by decide) ?_
        exact hj_8 ((v_6 - x1)) h H locs ls hw (lv_sub hl [1, 2, 4] rfl)
def m_X7_renameNow (fu : Nat) (x1 : Int32) (x2 : Int32) (x3 : Int32) (S : ST) : Option ST :=
  gd (inB x1 5) (gd (inB x1 5) (nm (wrA S 5 x1 ((((rdA S 5 x1) &&& (((1 : Int32) <<< (x2 &&& (31 : Int32))) ^^^ (-1 : Int32))) ||| ((1 : Int32) <<< (x3 &&& (31 : Int32)))))) (fun S_1 => some S_1)))
set_option maxRecDepth 100000 in
set_option maxHeartbeats 4000000 in
theorem k_X7_renameNow (l : Launch) (D : va_G) (cy : ClassId) (a : Nat → Nat) (fu : Nat) (x1 : Int32) (x2 : Int32) (x3 : Int32) (S : ST) (S' : ST) (h : m_X7_renameNow fu x1 x2 x3 S = some S') : CtV l yX7_renameNow cX7_renameNow 4 none 0 [.ref (a 0), .int x1, .int x2, .int x3] D cy (wM cy a) S S' := by
  refine CtV_of (by decide) (Nat.le_of_ble_eq_true rfl) ?_
  intro p e s m args below meth c A ls hC hr hk hw hl
  have hC : Cx p s m c RX7 cX7_renameNow 4 args D cy := hC
  have hx := hC.1
  have hb := hC.2.1
  have hl : lv_has ls 4 [(0, .ref (a 0)), (1, .int x1), (2, .int x2), (3, .int x3)] := hl
  obtain ⟨H, eH⟩ : ∃ z : Heap, z = s.heap := ⟨_, rfl⟩
  obtain ⟨locs, elocs⟩ : ∃ z : List Loc, z = [] := ⟨_, rfl⟩
  have hw : InW D (wM cy a) A s.heap H locs S := by rw [eH, elocs]; exact hw
  suffices hsu : W p l e (rmN 0) s m args below meth c H locs 0 0 (QV below args s D (wM cy a) A S') (F0 m 0 ls []) by rw [eH, elocs] at hsu; exact hsu
  unfold m_X7_renameNow at h
  refine lv_aload_n hx hb dX7_renameNow_0 rfl (lv_at hl 0 rfl) ?_
  refine gf (v := .ref (a 6)) hC hw in_X7 0 5 10 (cM_0 cy a S) rfl (by decide) lf_RX7_25 rfl rfl dX7_renameNow_1 ?_
  refine lv_iload_n hx hb dX7_renameNow_4 rfl (lv_at hl 1 rfl) ?_
  refine lv_aload_n hx hb dX7_renameNow_5 rfl (lv_at hl 0 rfl) ?_
  refine gf (v := .ref (a 6)) hC hw in_X7 0 5 10 (cM_0 cy a S) rfl (by decide) lf_RX7_25 rfl rfl dX7_renameNow_6 ?_
  refine lv_iload_n hx hb dX7_renameNow_9 rfl (lv_at hl 1 rfl) ?_
  obtain ⟨hi, h⟩ := gd_at h
  refine ga hC hw 6 (cM_6 cy a S) hi dX7_renameNow_10 ?_
  refine lv_iconst (v := 1) hx hb dX7_renameNow_11 (by decide) ?_
  refine lv_iload_n hx hb dX7_renameNow_12 rfl (lv_at hl 2 rfl) ?_
  refine lv_ishl hx hb dX7_renameNow_13 ?_
  refine lv_iconst (v := -1) hx hb dX7_renameNow_14 (by decide) ?_
  refine lv_ixor hx hb dX7_renameNow_15 ?_
  refine lv_iand hx hb dX7_renameNow_16 ?_
  refine lv_iconst (v := 1) hx hb dX7_renameNow_17 (by decide) ?_
  refine lv_iload_n hx hb dX7_renameNow_18 rfl (lv_at hl 3 rfl) ?_
  refine lv_ishl hx hb dX7_renameNow_19 ?_
  refine lv_ior hx hb dX7_renameNow_20 ?_
  obtain ⟨hi, h⟩ := gd_at h
  refine pa hC hw 6 (cM_6 cy a S) hi (rM_6 cy a S) dX7_renameNow_21 (fun H locs hw => ?_)
  obtain ⟨S_1, hw, h⟩ := nmw (P := fun z => InW D (wM cy a) A s.heap H locs z) hw h
  exact rtV hC hr hk hw (so_at h) dX7_renameNow_22
def m_X7_mayRename_6 (fu : Nat) (x2 : Int32) (x3 : Int32) (x4 : Int32) (S : ST) : Option Int32 :=
  gd (inB x2 5) ((if (((rdA S 5 x2) >>> (x3 &&& (31 : Int32))) &&& (1 : Int32)) = (1 : Int32) then gd (inB x2 5) ((if (((rdA S 5 x2) >>> (x4 &&& (31 : Int32))) &&& (1 : Int32)) = (0 : Int32) then bd (m_X7_fullness_6 fu x4 S) (fun v_4 => (if (stI S 1) ≤ v_4 then some (0 : Int32) else some (1 : Int32))) else some (0 : Int32))) else some (0 : Int32)))
set_option maxRecDepth 100000 in
set_option maxHeartbeats 4000000 in
theorem k_X7_mayRename_6 (l : Launch) (D : va_G) (cy : ClassId) (a : Nat → Nat) (fu : Nat) (x2 : Int32) (x3 : Int32) (x4 : Int32) (S : ST) (r : Int32) (h : m_X7_mayRename_6 fu x2 x3 x4 S = some r) : CtI l yX7_mayRename cX7_mayRename 5 (some .boolean) 1 [.ref (a 0), .ref (a 6), .int x2, .int x3, .int x4] D cy (wM cy a) S r S := by
  refine CtI_of (by decide) (Nat.le_of_ble_eq_true rfl) ?_
  intro p e s m args below meth c A ls hC hr hk hw hl
  have hC : Cx p s m c RX7 cX7_mayRename 5 args D cy := hC
  have hx := hC.1
  have hb := hC.2.1
  have hl : lv_has ls 5 [(0, .ref (a 0)), (1, .ref (a 6)), (2, .int x2), (3, .int x3), (4, .int x4)] := hl
  obtain ⟨H, eH⟩ : ∃ z : Heap, z = s.heap := ⟨_, rfl⟩
  obtain ⟨locs, elocs⟩ : ∃ z : List Loc, z = [] := ⟨_, rfl⟩
  have hw : InW D (wM cy a) A s.heap H locs S := by rw [eH, elocs]; exact hw
  suffices hsu : W p l e (rmN 1) s m args below meth c H locs 0 0 (QI below args s D (wM cy a) A r S) (F0 m 0 ls []) by rw [eH, elocs] at hsu; exact hsu
  unfold m_X7_mayRename_6 at h
  refine lv_aload_n hx hb dX7_mayRename_0 rfl (lv_at hl 1 rfl) ?_
  refine lv_iload_n hx hb dX7_mayRename_1 rfl (lv_at hl 2 rfl) ?_
  obtain ⟨hi, h⟩ := gd_at h
  refine ga hC hw 6 (cM_6 cy a S) hi dX7_mayRename_2 ?_
  refine lv_iload_n hx hb dX7_mayRename_3 rfl (lv_at hl 3 rfl) ?_
  refine lv_ishr hx hb dX7_mayRename_4 ?_
  refine lv_iconst (v := 1) hx hb dX7_mayRename_5 (by decide) ?_
  refine lv_iand hx hb dX7_mayRename_6 ?_
  refine lv_iconst (v := 1) hx hb dX7_mayRename_7 (by decide) ?_
  refine lv_icmp_ne (tgt := 40) hx hb dX7_mayRename_8 (by decide) (fun c_1 => ?_) (fun c_1 => ?_)
  · have h := if_at_f c_1 h
    refine lv_iconst (v := 0) hx hb dX7_mayRename_40 (by decide) ?_
    exact rtZ hC hr hk hw rfl (so_at h) rfl dX7_mayRename_41
  · have h := if_at_t c_1 h
    refine lv_aload_n hx hb dX7_mayRename_11 rfl (lv_at hl 1 rfl) ?_
    refine lv_iload_n hx hb dX7_mayRename_12 rfl (lv_at hl 2 rfl) ?_
    obtain ⟨hi, h⟩ := gd_at h
    refine ga hC hw 6 (cM_6 cy a S) hi dX7_mayRename_13 ?_
    refine lv_iload hx hb dX7_mayRename_14 (lv_at hl 4 rfl) ?_
    refine lv_ishr hx hb dX7_mayRename_16 ?_
    refine lv_iconst (v := 1) hx hb dX7_mayRename_17 (by decide) ?_
    refine lv_iand hx hb dX7_mayRename_18 ?_
    refine lv_if_ne (tgt := 40) hx hb dX7_mayRename_19 (by decide) (fun c_2 => ?_) (fun c_2 => ?_)
    · have h := if_at_f c_2 h
      refine lv_iconst (v := 0) hx hb dX7_mayRename_40 (by decide) ?_
      exact rtZ hC hr hk hw rfl (so_at h) rfl dX7_mayRename_41
    · have h := if_at_t c_2 h
      refine lv_aload_n hx hb dX7_mayRename_22 rfl (lv_at hl 0 rfl) ?_
      refine lv_aload_n hx hb dX7_mayRename_23 rfl (lv_at hl 1 rfl) ?_
      refine lv_iload hx hb dX7_mayRename_24 (lv_at hl 4 rfl) ?_
      obtain ⟨v_4, hc_3, h⟩ := bd_at h
      refine caVI (As := [.ref (a 6), .int x4]) (rest := []) hC hw hl.1 lm_RX7_95 li_RX7 lk_yX7_fullness li_yX7_fullness ll_yX7_fullness 0 5 (cM_0 cy a S) rfl 2 rfl hd_X7_fullness (by decide) (by decide) (Nat.le_of_ble_eq_true rfl) dX7_mayRename_26 (k_X7_fullness_6 l D cy a fu x4 S _ hc_3) (fun H locs hw => ?_)
      refine lv_aload_n hx hb dX7_mayRename_29 rfl (lv_at hl 0 rfl) ?_
      refine gf (v := .int (stI S 1)) hC hw in_X7 0 5 2 (cM_0 cy a S) rfl (by decide) lf_RX7_78 rfl rfl dX7_mayRename_30 ?_
      refine lv_icmp_ge (tgt := 40) hx hb dX7_mayRename_33 (by decide) (fun c_5 => ?_) (fun c_5 => ?_)
      · have h := if_at_t c_5 h
        refine lv_iconst (v := 0) hx hb dX7_mayRename_40 (by decide) ?_
        exact rtZ hC hr hk hw rfl (so_at h) rfl dX7_mayRename_41
      · have h := if_at_f c_5 h
        refine lv_iconst (v := 1) hx hb dX7_mayRename_36 (by decide) ?_
        refine lv_goto (tgt := 41) hx hb dX7_mayRename_37 (by decide) ?_
        exact rtZ hC hr hk hw rfl (so_at h) rfl dX7_mayRename_41
def m_X7_isMovedBy_L45 (fu : Nat) (x1 : Int32) (x2 : Int32) (x3_7 : Int32) (v_12 : Int32) (j_16 : Int32 → ST → Option (Int32 × ST)) (ag_30 : Int32 → ST → Option (Int32 × ST)) (x5_28 : Int32) (S_29 : ST) : Option (Int32 × ST) :=
  (if x1 ≤ x3_7 then j_16 x5_28 S_29 else (if (x1 - x3_7) < v_12 then j_16 x5_28 S_29 else gd (inB x3_7 4) ((if ((36 : Int32) * (stI S_29 4)) ≤ (rdA S_29 8 x3_7) then j_16 x5_28 S_29 else (if x5_28 = (0 : Int32) then gd (inB x3_7 4) (nm ((rdA S_29 8 x3_7)) (fun x6_35 => nm (((x6_35 / (6 : Int32)) - (x6_35 / (6 : Int32)) / (6 : Int32) * (6 : Int32))) (fun x7_36 => nm ((x6_35 - x6_35 / (6 : Int32) * (6 : Int32))) (fun x8_37 => jn1 (fun (S_38 : ST) => gd (inB x3_7 4) (gd (inB x3_7 4) (nm (wrA S_38 8 x3_7 (((rdA S_38 8 x3_7) + (1 : Int32)))) (fun S_40 => jn1 (fun (S_41 : ST) => ag_30 (0 : Int32) S_41) (fun j_42 => (if (0 : Int32) = (0 : Int32) then j_42 S_40 else bd (m_X7_renameNow fu ((x6_35 / (36 : Int32))) x7_36 x8_37 S_40) (fun S_45 => j_42 S_45))))))) (fun j_39 => jn1 (fun (v_46 : Int32) => gd (inB x3_7 4) (gd (inB x3_7 4) (nm (wrA S_29 8 x3_7 (((rdA S_29 8 x3_7) + (1 : Int32)))) (fun S_48 => jn1 (fun (S_49 : ST) => ag_30 v_46 S_49) (fun j_50 => (if v_46 = (0 : Int32) then j_50 S_48 else bd (m_X7_renameNow fu ((x6_35 / (36 : Int32))) x7_36 x8_37 S_48) (fun S_53 => j_50 S_53))))))) (fun j_47 => (if x7_36 = x8_37 then j_39 S_29 else bd (m_X7_mayRename_6 fu ((x6_35 / (36 : Int32))) x7_36 x8_37 S_29) (fun v_56 => (if v_56 = (0 : Int32) then j_39 S_29 else j_47 (1 : Int32)))))))))) else j_16 x5_28 S_29)))))
def m_X7_isMovedBy_L24 (fu : Nat) (x1 : Int32) (x2 : Int32) (ag_9 : Int32 → ST → Option (Int32 × ST)) (x3_7 : Int32) (S_8 : ST) : Option (Int32 × ST) :=
  (if x3_7 < (0 : Int32) then some ((0 : Int32), S_8) else bd (m_X7_above fu x2 S_8) (fun v_12 => (if v_12 = (0 : Int32) then some ((1 : Int32), S_8) else jn2 (fun (x5_14 : Int32) (S_15 : ST) => jn2 (fun (x3_17 : Int32) (S_18 : ST) => ag_9 x3_17 S_18) (fun j_19 => (if x5_14 = (0 : Int32) then nm (x3_7 + (-1 : Int32)) (fun x3_21 => (if x3_21 < (0 : Int32) then j_19 x3_21 S_15 else gd (inB x3_21 4) (nm (((rdA S_15 8 x3_21) - (1 : Int32))) (fun x6_23 => bd (m_X7_renameNow fu ((x6_23 / (36 : Int32))) ((x6_23 - x6_23 / (6 : Int32) * (6 : Int32))) (((x6_23 / (6 : Int32)) - (x6_23 / (6 : Int32)) / (6 : Int32) * (6 : Int32))) S_15) (fun S_25 => j_19 x3_21 S_25))))) else nm (x3_7 + (1 : Int32)) (fun x3_26 => gd (inB x3_26 4) (nm (wrA S_15 8 x3_26 (0 : Int32)) (fun S_27 => j_19 x3_26 S_27)))))) (fun j_16 => lq2 (m_X7_isMovedBy_L45 fu x1 x2 x3_7 v_12 j_16) fu (0 : Int32) S_8))))
def m_X7_isMovedBy (fu : Nat) (x1 : Int32) (x2 : Int32) (S : ST) : Option (Int32 × ST) :=
  bd (m_X7_asItIs fu S) (fun S_2 => gd (inB (0 : Int32) 4) (nm (wrA S_2 8 (0 : Int32) (0 : Int32)) (fun S_3 => bd (m_X7_above fu x2 S_3) (fun v_5 => (if v_5 ≤ x1 then lq2 (m_X7_isMovedBy_L24 fu x1 x2) fu (0 : Int32) S_3 else some ((0 : Int32), S_3))))))
set_option maxRecDepth 100000 in
set_option maxHeartbeats 4000000 in
theorem k_X7_isMovedBy (l : Launch) (D : va_G) (cy : ClassId) (a : Nat → Nat) (fu : Nat) (x1 : Int32) (x2 : Int32) (S : ST) (r : Int32) (S' : ST) (h : m_X7_isMovedBy fu x1 x2 S = some (r, S')) : CtI l yX7_isMovedBy cX7_isMovedBy 9 (some .boolean) 2 [.ref (a 0), .int x1, .int x2] D cy (wM cy a) S r S' := by
  refine CtI_of (by decide) (Nat.le_of_ble_eq_true rfl) ?_
  intro p e s m args below meth c A ls hC hr hk hw hl
  have hC : Cx p s m c RX7 cX7_isMovedBy 9 args D cy := hC
  have hx := hC.1
  have hb := hC.2.1
  have hl : lv_has ls 9 [(0, .ref (a 0)), (1, .int x1), (2, .int x2)] := hl
  obtain ⟨H, eH⟩ : ∃ z : Heap, z = s.heap := ⟨_, rfl⟩
  obtain ⟨locs, elocs⟩ : ∃ z : List Loc, z = [] := ⟨_, rfl⟩
  have hw : InW D (wM cy a) A s.heap H locs S := by rw [eH, elocs]; exact hw
  suffices hsu : W p l e (rmN 2) s m args below meth c H locs 0 0 (QI below args s D (wM cy a) A r S') (F0 m 0 ls []) by rw [eH, elocs] at hsu; exact hsu
  unfold m_X7_isMovedBy at h
  refine lv_aload_n hx hb dX7_isMovedBy_0 rfl (lv_at hl 0 rfl) ?_
  obtain ⟨S_2, hc_1, h⟩ := bd_at h
  refine caVV (As := []) (rest := []) hC hw hl.1 lm_RX7_144 li_RX7 lk_yX7_asItIs li_yX7_asItIs ll_yX7_asItIs 0 5 (cM_0 cy a S) rfl 0 rfl hd_X7_asItIs (by decide) (by decide) (Nat.le_of_ble_eq_true rfl) dX7_isMovedBy_1 (k_X7_asItIs l D cy a fu S _ hc_1) (fun H locs hw => ?_)
  refine lv_iconst (v := 0) hx hb dX7_isMovedBy_4 (by decide) ?_
  refine lv_istore_n (lv' := [(3, .int (0 : Int32)), (0, .ref (a 0)), (1, .int x1), (2, .int x2)]) hx hb dX7_isMovedBy_5 rfl hl (by decide) rfl (fun ls hl => ?_)
  refine lv_aload_n hx hb dX7_isMovedBy_6 rfl (lv_at hl 1 rfl) ?_
  refine gf (v := .ref (a 9)) hC hw in_X7 0 5 15 (cM_0 cy a S_2) rfl (by decide) lf_RX7_34 rfl rfl dX7_isMovedBy_7 ?_
  refine lv_iconst (v := 0) hx hb dX7_isMovedBy_10 (by decide) ?_
  refine lv_iconst (v := 0) hx hb dX7_isMovedBy_11 (by decide) ?_
  obtain ⟨hi, h⟩ := gd_at h
  refine pa hC hw 9 (cM_9 cy a S_2) hi (rM_9 cy a S_2) dX7_isMovedBy_12 (fun H locs hw => ?_)
  obtain ⟨S_3, hw, h⟩ := nmw (P := fun z => InW D (wM cy a) A s.heap H locs z) hw h
  refine lv_aload_n hx hb dX7_isMovedBy_13 rfl (lv_at hl 1 rfl) ?_
  refine lv_iload_n hx hb dX7_isMovedBy_14 rfl (lv_at hl 3 rfl) ?_
  obtain ⟨v_5, hc_4, h⟩ := bd_at h
  refine caVI (As := [.int x2]) (rest := []) hC hw hl.1 lm_RX7_176 li_RX7 lk_yX7_above li_yX7_above ll_yX7_above 0 5 (cM_0 cy a S_3) rfl 1 rfl hd_X7_above (by decide) (by decide) (Nat.le_of_ble_eq_true rfl) dX7_isMovedBy_15 (k_X7_above l D cy a fu x2 S_3 _ hc_4) (fun H locs hw => ?_)
  refine lv_iload_n hx hb dX7_isMovedBy_18 rfl (lv_at hl 2 rfl) ?_
  refine lv_icmp_le (tgt := 24) hx hb dX7_isMovedBy_19 (by decide) (fun c_6 => ?_) (fun c_6 => ?_)
  · have h := if_at_t c_6 h
    refine lq2_ok (fun (x3_7 : Int32) (S_8 : ST) => ∀ (H : Heap) (locs : List Loc) (ls : Array Slot), InW D (wM cy a) A s.heap H locs S_8 → lv_has ls 9 [(0, .ref (a 0)), (1, .int x1), (2, .int x2), (3, .int x3_7)] → W p l e (rmN 2) s m args below meth c H locs 0 0 (QI below args s D (wM cy a) A r S') (F0 m 24 ls [])) ?_ fu (0 : Int32) S_3 h H locs ls hw (lv_sub hl [1, 2, 3, 0] rfl)
    intro ag_9 hag_9 x3_7 S_8 h H locs ls hw hl
    unfold m_X7_isMovedBy_L24 at h
    refine lv_iload_n hx hb dX7_isMovedBy_24 rfl (lv_at hl 3 rfl) ?_
    refine lv_if_lt (tgt := 229) hx hb dX7_isMovedBy_25 (by decide) (fun c_10 => ?_) (fun c_10 => ?_)
    · have h := if_at_t c_10 h
      refine lv_iconst (v := 0) hx hb dX7_isMovedBy_229 (by decide) ?_
      exact rtZ hC hr hk hw rfl (so_at2 h).1 (so_at2 h).2 dX7_isMovedBy_230
    · have h := if_at_f c_10 h
      refine lv_aload_n hx hb dX7_isMovedBy_28 rfl (lv_at hl 0 rfl) ?_
      refine lv_iload_n hx hb dX7_isMovedBy_29 rfl (lv_at hl 2 rfl) ?_
      obtain ⟨v_12, hc_11, h⟩ := bd_at h
      refine caVI (As := [.int x2]) (rest := []) hC hw hl.1 lm_RX7_176 li_RX7 lk_yX7_above li_yX7_above ll_yX7_above 0 5 (cM_0 cy a S_8) rfl 1 rfl hd_X7_above (by decide) (by decide) (Nat.le_of_ble_eq_true rfl) dX7_isMovedBy_30 (k_X7_above l D cy a fu x2 S_8 _ hc_11) (fun H locs hw => ?_)
      refine lv_istore (lv' := [(4, .int v_12), (0, .ref (a 0)), (1, .int x1), (2, .int x2), (3, .int x3_7)]) hx hb dX7_isMovedBy_33 hl (by decide) rfl (fun ls hl => ?_)
      refine lv_iload hx hb dX7_isMovedBy_35 (lv_at hl 0 rfl) ?_
      refine lv_if_ne (tgt := 42) hx hb dX7_isMovedBy_37 (by decide) (fun c_13 => ?_) (fun c_13 => ?_)
      · have h := if_at_f c_13 h
        refine lv_iconst (v := 0) hx hb dX7_isMovedBy_42 (by decide) ?_
        refine lv_istore (lv' := [(5, .int (0 : Int32)), (4, .int v_12), (0, .ref (a 0)), (1, .int x1), (2, .int x2), (3, .int x3_7)]) hx hb dX7_isMovedBy_43 hl (by decide) rfl (fun ls hl => ?_)
        refine jn2_ok (fun (x5_14 : Int32) (S_15 : ST) => ∀ (H : Heap) (locs : List Loc) (ls : Array Slot), InW D (wM cy a) A s.heap H locs S_15 → lv_has ls 9 [(0, .ref (a 0)), (1, .int x1), (2, .int x2), (3, .int x3_7), (5, .int x5_14)] → W p l e (rmN 2) s m args below meth c H locs 0 0 (QI below args s D (wM cy a) A r S') (F0 m 169 ls [])) ?_ ?_ h
        · intro x5_14 S_15 h H locs ls hw hl
          refine lv_iload hx hb dX7_isMovedBy_169 (lv_at hl 4 rfl) ?_
          refine jn2_ok (fun (x3_17 : Int32) (S_18 : ST) => ∀ (H : Heap) (locs : List Loc) (ls : Array Slot), InW D (wM cy a) A s.heap H locs S_18 → lv_has ls 9 [(0, .ref (a 0)), (1, .int x1), (2, .int x2), (3, .int x3_17)] → W p l e (rmN 2) s m args below meth c H locs 0 0 (QI below args s D (wM cy a) A r S') (F0 m 226 ls [])) ?_ ?_ h
          · intro x3_17 S_18 h H locs ls hw hl
            refine lv_goto (tgt := 24) hx hb dX7_isMovedBy_226 (by decide) ?_
            exact hag_9 x3_17 S_18 h H locs ls hw (lv_sub hl [0, 1, 2, 3] rfl)
          · intro j_19 hj_19 h
            refine lv_if_eq (tgt := 187) hx hb dX7_isMovedBy_171 (by decide) (fun c_20 => ?_) (fun c_20 => ?_)
            · have h := if_at_t c_20 h
              obtain ⟨x3_21, ex3_21⟩ : ∃ z : Int32, z = x3_7 + (-1 : Int32) := ⟨_, rfl⟩
              have h := nm_at ex3_21 h
              refine lv_iinc (v := x3_21) (lv' := [(3, .int x3_21), (0, .ref (a 0)), (1, .int x1), (2, .int x2), (5, .int x5_14)]) hx hb dX7_isMovedBy_187 hl (k := 3) rfl (by rw [ex3_21]; rfl) (by decide) rfl (fun ls hl => ?_)
              refine lv_iload_n hx hb dX7_isMovedBy_190 rfl (lv_at hl 0 rfl) ?_
              refine lv_if_lt (tgt := 226) hx hb dX7_isMovedBy_191 (by decide) (fun c_22 => ?_) (fun c_22 => ?_)
              · have h := if_at_t c_22 h
                exact hj_19 x3_21 S_15 h H locs ls hw (lv_sub hl [1, 2, 3, 0] rfl)
              · have h := if_at_f c_22 h
                refine lv_aload_n hx hb dX7_isMovedBy_194 rfl (lv_at hl 1 rfl) ?_
                refine gf (v := .ref (a 9)) hC hw in_X7 0 5 15 (cM_0 cy a S_15) rfl (by decide) lf_RX7_34 rfl rfl dX7_isMovedBy_195 ?_
                refine lv_iload_n hx hb dX7_isMovedBy_198 rfl (lv_at hl 0 rfl) ?_
                obtain ⟨hi, h⟩ := gd_at h
                refine ga hC hw 9 (cM_9 cy a S_15) hi dX7_isMovedBy_199 ?_
                refine lv_iconst (v := 1) hx hb dX7_isMovedBy_200 (by decide) ?_
                refine lv_isub hx hb dX7_isMovedBy_201 ?_
                refine lv_topi (fun x6_23 ex6_23 => ?_)
                have h := nm_at ex6_23 h
                refine lv_istore (lv' := [(6, .int x6_23), (3, .int x3_21), (0, .ref (a 0)), (1, .int x1), (2, .int x2), (5, .int x5_14)]) hx hb dX7_isMovedBy_202 hl (by decide) rfl (fun ls hl => ?_)
                refine lv_aload_n hx hb dX7_isMovedBy_204 rfl (lv_at hl 2 rfl) ?_
                refine lv_iload hx hb dX7_isMovedBy_205 (lv_at hl 0 rfl) ?_
                refine lv_bipush (v := 36) hx hb dX7_isMovedBy_207 (by decide) ?_
                refine lv_idiv hx hb dX7_isMovedBy_209 (by decide) ?_
                refine lv_iload hx hb dX7_isMovedBy_210 (lv_at hl 0 rfl) ?_
                refine lv_bipush (v := 6) hx hb dX7_isMovedBy_212 (by decide) ?_
                refine lv_irem hx hb dX7_isMovedBy_214 (by decide) ?_
                refine lv_iload hx hb dX7_isMovedBy_215 (lv_at hl 0 rfl) ?_
                refine lv_bipush (v := 6) hx hb dX7_isMovedBy_217 (by decide) ?_
                refine lv_idiv hx hb dX7_isMovedBy_219 (by decide) ?_
                refine lv_bipush (v := 6) hx hb dX7_isMovedBy_220 (by decide) ?_
                refine lv_irem hx hb dX7_isMovedBy_222 (by decide) ?_
                obtain ⟨S_25, hc_24, h⟩ := bd_at h
                refine caVV (As := [.int (x6_23 / (36 : Int32)), .int (x6_23 - x6_23 / (6 : Int32) * (6 : Int32)), .int ((x6_23 / (6 : Int32)) - (x6_23 / (6 : Int32)) / (6 : Int32) * (6 : Int32))]) (rest := []) hC hw hl.1 lm_RX7_179 li_RX7 lk_yX7_renameNow li_yX7_renameNow ll_yX7_renameNow 0 5 (cM_0 cy a S_15) rfl 3 rfl hd_X7_renameNow (by decide) (by decide) (Nat.le_of_ble_eq_true rfl) dX7_isMovedBy_223 (k_X7_renameNow l D cy a fu ((x6_23 / (36 : Int32))) ((x6_23 - x6_23 / (6 : Int32) * (6 : Int32))) (((x6_23 / (6 : Int32)) - (x6_23 / (6 : Int32)) / (6 : Int32) * (6 : Int32))) S_15 _ hc_24) (fun H locs hw => ?_)
                exact hj_19 x3_21 S_25 h H locs ls hw (lv_sub hl [2, 3, 4, 1] rfl)
            · have h := if_at_f c_20 h
              obtain ⟨x3_26, ex3_26⟩ : ∃ z : Int32, z = x3_7 + (1 : Int32) := ⟨_, rfl⟩
              have h := nm_at ex3_26 h
              refine lv_iinc (v := x3_26) (lv' := [(3, .int x3_26), (0, .ref (a 0)), (1, .int x1), (2, .int x2), (5, .int x5_14)]) hx hb dX7_isMovedBy_174 hl (k := 3) rfl (by rw [ex3_26]; rfl) (by decide) rfl (fun ls hl => ?_)
              refine lv_aload_n hx hb dX7_isMovedBy_177 rfl (lv_at hl 1 rfl) ?_
              refine gf (v := .ref (a 9)) hC hw in_X7 0 5 15 (cM_0 cy a S_15) rfl (by decide) lf_RX7_34 rfl rfl dX7_isMovedBy_178 ?_
              refine lv_iload_n hx hb dX7_isMovedBy_181 rfl (lv_at hl 0 rfl) ?_
              refine lv_iconst (v := 0) hx hb dX7_isMovedBy_182 (by decide) ?_
              obtain ⟨hi, h⟩ := gd_at h
              refine pa hC hw 9 (cM_9 cy a S_15) hi (rM_9 cy a S_15) dX7_isMovedBy_183 (fun H locs hw => ?_)
              obtain ⟨S_27, hw, h⟩ := nmw (P := fun z => InW D (wM cy a) A s.heap H locs z) hw h
              refine lv_goto (tgt := 226) hx hb dX7_isMovedBy_184 (by decide) ?_
              exact hj_19 x3_26 S_27 h H locs ls hw (lv_sub hl [1, 2, 3, 0] rfl)
        · intro j_16 hj_16 h
          refine lq2_ok (fun (x5_28 : Int32) (S_29 : ST) => ∀ (H : Heap) (locs : List Loc) (ls : Array Slot), InW D (wM cy a) A s.heap H locs S_29 → lv_has ls 9 [(0, .ref (a 0)), (1, .int x1), (2, .int x2), (3, .int x3_7), (4, .int v_12), (5, .int x5_28)] → W p l e (rmN 2) s m args below meth c H locs 0 0 (QI below args s D (wM cy a) A r S') (F0 m 45 ls [])) ?_ fu (0 : Int32) S_8 h H locs ls hw (lv_sub hl [2, 3, 4, 5, 1, 0] rfl)
          intro ag_30 hag_30 x5_28 S_29 h H locs ls hw hl
          unfold m_X7_isMovedBy_L45 at h
          refine lv_iload_n hx hb dX7_isMovedBy_45 rfl (lv_at hl 3 rfl) ?_
          refine lv_iload_n hx hb dX7_isMovedBy_46 rfl (lv_at hl 1 rfl) ?_
          refine lv_icmp_ge (tgt := 169) hx hb dX7_isMovedBy_47 (by decide) (fun c_31 => ?_) (fun c_31 => ?_)
          · have h := if_at_t c_31 h
            exact hj_16 x5_28 S_29 h H locs ls hw (lv_sub hl [0, 1, 2, 3, 5] rfl)
          · have h := if_at_f c_31 h
            refine lv_iload hx hb dX7_isMovedBy_50 (lv_at hl 4 rfl) ?_
            refine lv_iload_n hx hb dX7_isMovedBy_52 rfl (lv_at hl 1 rfl) ?_
            refine lv_iload_n hx hb dX7_isMovedBy_53 rfl (lv_at hl 3 rfl) ?_
            refine lv_isub hx hb dX7_isMovedBy_54 ?_
            refine lv_icmp_gt (tgt := 169) hx hb dX7_isMovedBy_55 (by decide) (fun c_32 => ?_) (fun c_32 => ?_)
            · have h := if_at_t c_32 h
              exact hj_16 x5_28 S_29 h H locs ls hw (lv_sub hl [0, 1, 2, 3, 5] rfl)
            · have h := if_at_f c_32 h
              refine lv_aload_n hx hb dX7_isMovedBy_58 rfl (lv_at hl 0 rfl) ?_
              refine gf (v := .ref (a 9)) hC hw in_X7 0 5 15 (cM_0 cy a S_29) rfl (by decide) lf_RX7_34 rfl rfl dX7_isMovedBy_59 ?_
              refine lv_iload_n hx hb dX7_isMovedBy_62 rfl (lv_at hl 3 rfl) ?_
              obtain ⟨hi, h⟩ := gd_at h
              refine ga hC hw 9 (cM_9 cy a S_29) hi dX7_isMovedBy_63 ?_
              refine lv_bipush (v := 36) hx hb dX7_isMovedBy_64 (by decide) ?_
              refine lv_aload_n hx hb dX7_isMovedBy_66 rfl (lv_at hl 0 rfl) ?_
              refine gf (v := .int (stI S_29 4)) hC hw in_X7 0 5 6 (cM_0 cy a S_29) rfl (by decide) lf_RX7_81 rfl rfl dX7_isMovedBy_67 ?_
              refine lv_imul hx hb dX7_isMovedBy_70 ?_
              refine lv_icmp_ge (tgt := 169) hx hb dX7_isMovedBy_71 (by decide) (fun c_33 => ?_) (fun c_33 => ?_)
              · have h := if_at_t c_33 h
                exact hj_16 x5_28 S_29 h H locs ls hw (lv_sub hl [0, 1, 2, 3, 5] rfl)
              · have h := if_at_f c_33 h
                refine lv_iload hx hb dX7_isMovedBy_74 (lv_at hl 5 rfl) ?_
                refine lv_if_ne (tgt := 169) hx hb dX7_isMovedBy_76 (by decide) (fun c_34 => ?_) (fun c_34 => ?_)
                · have h := if_at_f c_34 h
                  exact hj_16 x5_28 S_29 h H locs ls hw (lv_sub hl [0, 1, 2, 3, 5] rfl)
                · have h := if_at_t c_34 h
                  refine lv_aload_n hx hb dX7_isMovedBy_79 rfl (lv_at hl 0 rfl) ?_
                  refine gf (v := .ref (a 9)) hC hw in_X7 0 5 15 (cM_0 cy a S_29) rfl (by decide) lf_RX7_34 rfl rfl dX7_isMovedBy_80 ?_
                  refine lv_iload_n hx hb dX7_isMovedBy_83 rfl (lv_at hl 3 rfl) ?_
                  obtain ⟨hi, h⟩ := gd_at h
                  refine ga hC hw 9 (cM_9 cy a S_29) hi dX7_isMovedBy_84 ?_
                  refine lv_topi (fun x6_35 ex6_35 => ?_)
                  have h := nm_at ex6_35 h
                  refine lv_istore (lv' := [(6, .int x6_35), (0, .ref (a 0)), (1, .int x1), (2, .int x2), (3, .int x3_7), (4, .int v_12), (5, .int x5_28)]) hx hb dX7_isMovedBy_85 hl (by decide) rfl (fun ls hl => ?_)
                  refine lv_iload hx hb dX7_isMovedBy_87 (lv_at hl 0 rfl) ?_
                  refine lv_bipush (v := 6) hx hb dX7_isMovedBy_89 (by decide) ?_
                  refine lv_idiv hx hb dX7_isMovedBy_91 (by decide) ?_
                  refine lv_bipush (v := 6) hx hb dX7_isMovedBy_92 (by decide) ?_
                  refine lv_irem hx hb dX7_isMovedBy_94 (by decide) ?_
                  refine lv_topi (fun x7_36 ex7_36 => ?_)
                  have h := nm_at ex7_36 h
                  refine lv_istore (lv' := [(7, .int x7_36), (6, .int x6_35), (0, .ref (a 0)), (1, .int x1), (2, .int x2), (3, .int x3_7), (4, .int v_12), (5, .int x5_28)]) hx hb dX7_isMovedBy_95 hl (by decide) rfl (fun ls hl => ?_)
                  refine lv_iload hx hb dX7_isMovedBy_97 (lv_at hl 1 rfl) ?_
                  refine lv_bipush (v := 6) hx hb dX7_isMovedBy_99 (by decide) ?_
                  refine lv_irem hx hb dX7_isMovedBy_101 (by decide) ?_
                  refine lv_topi (fun x8_37 ex8_37 => ?_)
                  have h := nm_at ex8_37 h
                  refine lv_istore (lv' := [(8, .int x8_37), (7, .int x7_36), (6, .int x6_35), (0, .ref (a 0)), (1, .int x1), (2, .int x2), (3, .int x3_7), (4, .int v_12), (5, .int x5_28)]) hx hb dX7_isMovedBy_102 hl (by decide) rfl (fun ls hl => ?_)
                  refine lv_iload hx hb dX7_isMovedBy_104 (lv_at hl 1 rfl) ?_
                  refine lv_iload hx hb dX7_isMovedBy_106 (lv_at hl 0 rfl) ?_
                  refine jn1_ok (fun (S_38 : ST) => ∀ (H : Heap) (locs : List Loc) (ls : Array Slot), InW D (wM cy a) A s.heap H locs S_38 → lv_has ls 9 [(0, .ref (a 0)), (1, .int x1), (2, .int x2), (3, .int x3_7), (4, .int v_12), (6, .int x6_35), (7, .int x7_36), (8, .int x8_37)] → W p l e (rmN 2) s m args below meth c H locs 0 0 (QI below args s D (wM cy a) A r S') (F0 m 135 ls [])) ?_ ?_ h
                  · intro S_38 h H locs ls hw hl
                    refine lv_iconst (v := 0) hx hb dX7_isMovedBy_135 (by decide) ?_
                    refine lv_istore (lv' := [(5, .int (0 : Int32)), (0, .ref (a 0)), (1, .int x1), (2, .int x2), (3, .int x3_7), (4, .int v_12), (6, .int x6_35), (7, .int x7_36), (8, .int x8_37)]) hx hb dX7_isMovedBy_136 hl (by decide) rfl (fun ls hl => ?_)
                    refine lv_aload_n hx hb dX7_isMovedBy_138 rfl (lv_at hl 1 rfl) ?_
                    refine gf (v := .ref (a 9)) hC hw in_X7 0 5 15 (cM_0 cy a S_38) rfl (by decide) lf_RX7_34 rfl rfl dX7_isMovedBy_139 ?_
                    refine lv_iload_n hx hb dX7_isMovedBy_142 rfl (lv_at hl 4 rfl) ?_
                    refine lv_dup2_11 hx hb dX7_isMovedBy_143 rfl rfl ?_
                    obtain ⟨hi, h⟩ := gd_at h
                    refine ga hC hw 9 (cM_9 cy a S_38) hi dX7_isMovedBy_144 ?_
                    refine lv_iconst (v := 1) hx hb dX7_isMovedBy_145 (by decide) ?_
                    refine lv_iadd hx hb dX7_isMovedBy_146 ?_
                    obtain ⟨hi, h⟩ := gd_at h
                    refine pa hC hw 9 (cM_9 cy a S_38) hi (rM_9 cy a S_38) dX7_isMovedBy_147 (fun H locs hw => ?_)
                    obtain ⟨S_40, hw, h⟩ := nmw (P := fun z => InW D (wM cy a) A s.heap H locs z) hw h
                    refine lv_iload hx hb dX7_isMovedBy_148 (lv_at hl 0 rfl) ?_
                    refine jn1_ok (fun (S_41 : ST) => ∀ (H : Heap) (locs : List Loc) (ls : Array Slot), InW D (wM cy a) A s.heap H locs S_41 → lv_has ls 9 [(0, .ref (a 0)), (1, .int x1), (2, .int x2), (3, .int x3_7), (4, .int v_12), (5, .int (0 : Int32))] → W p l e (rmN 2) s m args below meth c H locs 0 0 (QI below args s D (wM cy a) A r S') (F0 m 166 ls [])) ?_ ?_ h
                    · intro S_41 h H locs ls hw hl
                      refine lv_goto (tgt := 45) hx hb dX7_isMovedBy_166 (by decide) ?_
                      exact hag_30 (0 : Int32) S_41 h H locs ls hw (lv_sub hl [0, 1, 2, 3, 4, 5] rfl)
                    · intro j_42 hj_42 h
                      refine lv_if_eq (tgt := 166) hx hb dX7_isMovedBy_150 (by decide) (fun c_43 => ?_) (fun c_43 => ?_)
                      · have h := if_at_t c_43 h
                        exact hj_42 S_40 h H locs ls hw (lv_sub hl [1, 2, 3, 4, 5, 0] rfl)
                      · have h := if_at_f c_43 h
                        refine lv_aload_n hx hb dX7_isMovedBy_153 rfl (lv_at hl 1 rfl) ?_
                        refine lv_iload hx hb dX7_isMovedBy_154 (lv_at hl 6 rfl) ?_
                        refine lv_bipush (v := 36) hx hb dX7_isMovedBy_156 (by decide) ?_
                        refine lv_idiv hx hb dX7_isMovedBy_158 (by decide) ?_
                        refine lv_iload hx hb dX7_isMovedBy_159 (lv_at hl 7 rfl) ?_
                        refine lv_iload hx hb dX7_isMovedBy_161 (lv_at hl 8 rfl) ?_
                        obtain ⟨S_45, hc_44, h⟩ := bd_at h
                        refine caVV (As := [.int (x6_35 / (36 : Int32)), .int x7_36, .int x8_37]) (rest := []) hC hw hl.1 lm_RX7_179 li_RX7 lk_yX7_renameNow li_yX7_renameNow ll_yX7_renameNow 0 5 (cM_0 cy a S_40) rfl 3 rfl hd_X7_renameNow (by decide) (by decide) (Nat.le_of_ble_eq_true rfl) dX7_isMovedBy_163 (k_X7_renameNow l D cy a fu ((x6_35 / (36 : Int32))) x7_36 x8_37 S_40 _ hc_44) (fun H locs hw => ?_)
                        exact hj_42 S_45 h H locs ls hw (lv_sub hl [1, 2, 3, 4, 5, 0] rfl)
                  · intro j_39 hj_39 h
                    refine jn1_ok (fun (v_46 : Int32) => ∀ (H : Heap) (locs : List Loc) (ls : Array Slot), InW D (wM cy a) A s.heap H locs S_29 → lv_has ls 9 [(0, .ref (a 0)), (1, .int x1), (2, .int x2), (3, .int x3_7), (4, .int v_12), (6, .int x6_35), (7, .int x7_36), (8, .int x8_37)] → W p l e (rmN 2) s m args below meth c H locs 0 0 (QI below args s D (wM cy a) A r S') (F0 m 136 ls [.int v_46])) ?_ ?_ h
                    · intro v_46 h H locs ls hw hl
                      refine lv_istore (lv' := [(5, .int v_46), (0, .ref (a 0)), (1, .int x1), (2, .int x2), (3, .int x3_7), (4, .int v_12), (6, .int x6_35), (7, .int x7_36), (8, .int x8_37)]) hx hb dX7_isMovedBy_136 hl (by decide) rfl (fun ls hl => ?_)
                      refine lv_aload_n hx hb dX7_isMovedBy_138 rfl (lv_at hl 1 rfl) ?_
                      refine gf (v := .ref (a 9)) hC hw in_X7 0 5 15 (cM_0 cy a S_29) rfl (by decide) lf_RX7_34 rfl rfl dX7_isMovedBy_139 ?_
                      refine lv_iload_n hx hb dX7_isMovedBy_142 rfl (lv_at hl 4 rfl) ?_
                      refine lv_dup2_11 hx hb dX7_isMovedBy_143 rfl rfl ?_
                      obtain ⟨hi, h⟩ := gd_at h
                      refine ga hC hw 9 (cM_9 cy a S_29) hi dX7_isMovedBy_144 ?_
                      refine lv_iconst (v := 1) hx hb dX7_isMovedBy_145 (by decide) ?_
                      refine lv_iadd hx hb dX7_isMovedBy_146 ?_
                      obtain ⟨hi, h⟩ := gd_at h
                      refine pa hC hw 9 (cM_9 cy a S_29) hi (rM_9 cy a S_29) dX7_isMovedBy_147 (fun H locs hw => ?_)
                      obtain ⟨S_48, hw, h⟩ := nmw (P := fun z => InW D (wM cy a) A s.heap H locs z) hw h
                      refine lv_iload hx hb dX7_isMovedBy_148 (lv_at hl 0 rfl) ?_
                      refine jn1_ok (fun (S_49 : ST) => ∀ (H : Heap) (locs : List Loc) (ls : Array Slot), InW D (wM cy a) A s.heap H locs S_49 → lv_has ls 9 [(0, .ref (a 0)), (1, .int x1), (2, .int x2), (3, .int x3_7), (4, .int v_12), (5, .int v_46)] → W p l e (rmN 2) s m args below meth c H locs 0 0 (QI below args s D (wM cy a) A r S') (F0 m 166 ls [])) ?_ ?_ h
                      · intro S_49 h H locs ls hw hl
                        refine lv_goto (tgt := 45) hx hb dX7_isMovedBy_166 (by decide) ?_
                        exact hag_30 v_46 S_49 h H locs ls hw (lv_sub hl [0, 1, 2, 3, 4, 5] rfl)
                      · intro j_50 hj_50 h
                        refine lv_if_eq (tgt := 166) hx hb dX7_isMovedBy_150 (by decide) (fun c_51 => ?_) (fun c_51 => ?_)
                        · have h := if_at_t c_51 h
                          exact hj_50 S_48 h H locs ls hw (lv_sub hl [1, 2, 3, 4, 5, 0] rfl)
                        · have h := if_at_f c_51 h
                          refine lv_aload_n hx hb dX7_isMovedBy_153 rfl (lv_at hl 1 rfl) ?_
                          refine lv_iload hx hb dX7_isMovedBy_154 (lv_at hl 6 rfl) ?_
                          refine lv_bipush (v := 36) hx hb dX7_isMovedBy_156 (by decide) ?_
                          refine lv_idiv hx hb dX7_isMovedBy_158 (by decide) ?_
                          refine lv_iload hx hb dX7_isMovedBy_159 (lv_at hl 7 rfl) ?_
                          refine lv_iload hx hb dX7_isMovedBy_161 (lv_at hl 8 rfl) ?_
                          obtain ⟨S_53, hc_52, h⟩ := bd_at h
                          refine caVV (As := [.int (x6_35 / (36 : Int32)), .int x7_36, .int x8_37]) (rest := []) hC hw hl.1 lm_RX7_179 li_RX7 lk_yX7_renameNow li_yX7_renameNow ll_yX7_renameNow 0 5 (cM_0 cy a S_48) rfl 3 rfl hd_X7_renameNow (by decide) (by decide) (Nat.le_of_ble_eq_true rfl) dX7_isMovedBy_163 (k_X7_renameNow l D cy a fu ((x6_35 / (36 : Int32))) x7_36 x8_37 S_48 _ hc_52) (fun H locs hw => ?_)
                          exact hj_50 S_53 h H locs ls hw (lv_sub hl [1, 2, 3, 4, 5, 0] rfl)
                    · intro j_47 hj_47 h
                      refine lv_icmp_eq (tgt := 135) hx hb dX7_isMovedBy_108 (by decide) (fun c_54 => ?_) (fun c_54 => ?_)
                      · have h := if_at_t c_54 h
                        exact hj_39 S_29 h H locs ls hw (lv_sub hl [3, 4, 5, 6, 7, 2, 1, 0] rfl)
                      · have h := if_at_f c_54 h
                        refine lv_aload_n hx hb dX7_isMovedBy_111 rfl (lv_at hl 3 rfl) ?_
                        refine lv_aload_n hx hb dX7_isMovedBy_112 rfl (lv_at hl 3 rfl) ?_
                        refine gf (v := .ref (a 6)) hC hw in_X7 0 5 10 (cM_0 cy a S_29) rfl (by decide) lf_RX7_25 rfl rfl dX7_isMovedBy_113 ?_
                        refine lv_iload hx hb dX7_isMovedBy_116 (lv_at hl 2 rfl) ?_
                        refine lv_bipush (v := 36) hx hb dX7_isMovedBy_118 (by decide) ?_
                        refine lv_idiv hx hb dX7_isMovedBy_120 (by decide) ?_
                        refine lv_iload hx hb dX7_isMovedBy_121 (lv_at hl 1 rfl) ?_
                        refine lv_iload hx hb dX7_isMovedBy_123 (lv_at hl 0 rfl) ?_
                        obtain ⟨v_56, hc_55, h⟩ := bd_at h
                        refine caVI (As := [.ref (a 6), .int (x6_35 / (36 : Int32)), .int x7_36, .int x8_37]) (rest := []) hC hw hl.1 lm_RX7_130 li_RX7 lk_yX7_mayRename li_yX7_mayRename ll_yX7_mayRename 0 5 (cM_0 cy a S_29) rfl 4 rfl hd_X7_mayRename (by decide) (by decide) (Nat.le_of_ble_eq_true rfl) dX7_isMovedBy_125 (k_X7_mayRename_6 l D cy a fu ((x6_35 / (36 : Int32))) x7_36 x8_37 S_29 _ hc_55) (fun H locs hw => ?_)
                        refine lv_if_eq (tgt := 135) hx hb dX7_isMovedBy_128 (by decide) (fun c_57 => ?_) (fun c_57 => ?_)
                        · have h := if_at_t c_57 h
                          exact hj_39 S_29 h H locs ls hw (lv_sub hl [3, 4, 5, 6, 7, 2, 1, 0] rfl)
                        · have h := if_at_f c_57 h
                          refine lv_iconst (v := 1) hx hb dX7_isMovedBy_131 (by decide) ?_
                          refine lv_goto (tgt := 136) hx hb dX7_isMovedBy_132 (by decide) ?_
                          exact hj_47 (1 : Int32) h H locs ls hw (lv_sub hl [3, 4, 5, 6, 7, 2, 1, 0] rfl)
      · have h := if_at_t c_13 h
        refine lv_iconst (v := 1) hx hb dX7_isMovedBy_40 (by decide) ?_
        exact rtZ hC hr hk hw rfl (so_at2 h).1 (so_at2 h).2 dX7_isMovedBy_41
  · have h := if_at_f c_6 h
    refine lv_iconst (v := 0) hx hb dX7_isMovedBy_22 (by decide) ?_
    exact rtZ hC hr hk hw rfl (so_at2 h).1 (so_at2 h).2 dX7_isMovedBy_23
def m_X7_moving_L46 (fu : Nat) (x1 : Int32) (ag_11 : Int32 → ST → Option (Int32 × ST)) (x2_9 : Int32) (S_10 : ST) : Option (Int32 × ST) :=
  (if (4 : Int32) ≤ x2_9 then some ((-1 : Int32), S_10) else bd2 (m_X7_isMovedBy fu x2_9 x1 S_10) (fun v_14 S_15 => (if v_14 = (0 : Int32) then nm (x2_9 + (1 : Int32)) (fun x2_17 => ag_11 x2_17 S_15) else some (x2_9, S_15))))
def m_X7_moving (fu : Nat) (x1 : Int32) (S : ST) : Option (Int32 × ST) :=
  bd (m_X7_in fu ((x1).toInt64) (1 : Int64) (9 : Int64)) (fun v_2 => (if v_2 = (0 : Int32) then some ((-102 : Int32), S) else bd (m_X7_lacks fu S) (fun v_5 => (if v_5 = (0 : Int32) then (if (stI S 6) = (10 : Int32) then some ((-103 : Int32), S) else nm (puI S 6 (((stI S 6) + (1 : Int32)))) (fun S_8 => lq2 (m_X7_moving_L46 fu x1) fu (0 : Int32) S_8)) else some ((-103 : Int32), S)))))
set_option maxRecDepth 100000 in
set_option maxHeartbeats 4000000 in
theorem k_X7_moving (l : Launch) (D : va_G) (cy : ClassId) (a : Nat → Nat) (fu : Nat) (x1 : Int32) (S : ST) (r : Int32) (S' : ST) (h : m_X7_moving fu x1 S = some (r, S')) : CtI l yX7_moving cX7_moving 3 (some .int) 3 [.ref (a 0), .int x1] D cy (wM cy a) S r S' := by
  refine CtI_of (by decide) (Nat.le_of_ble_eq_true rfl) ?_
  intro p e s m args below meth c A ls hC hr hk hw hl
  have hC : Cx p s m c RX7 cX7_moving 3 args D cy := hC
  have hx := hC.1
  have hb := hC.2.1
  have hl : lv_has ls 3 [(0, .ref (a 0)), (1, .int x1)] := hl
  obtain ⟨H, eH⟩ : ∃ z : Heap, z = s.heap := ⟨_, rfl⟩
  obtain ⟨locs, elocs⟩ : ∃ z : List Loc, z = [] := ⟨_, rfl⟩
  have hw : InW D (wM cy a) A s.heap H locs S := by rw [eH, elocs]; exact hw
  suffices hsu : W p l e (rmN 3) s m args below meth c H locs 0 0 (QI below args s D (wM cy a) A r S') (F0 m 0 ls []) by rw [eH, elocs] at hsu; exact hsu
  unfold m_X7_moving at h
  refine lv_iload_n hx hb dX7_moving_0 rfl (lv_at hl 1 rfl) ?_
  refine lv_i2l hx hb dX7_moving_1 rfl ?_
  refine lv_lconst (v := 1) hx hb dX7_moving_2 (by decide) ?_
  refine lv_ldc2 hx hb hC.2.2.2.1 (hC.2.2.2.2.1 _ lc_RX7_68) dX7_moving_3 ?_
  obtain ⟨v_2, hc_1, h⟩ := bd_at h
  refine caSI (As := [.long (x1).toInt64, .long (1 : Int64), .long (9 : Int64)]) (rest := []) hC hw hl.1 lm_RX7_61 li_RX7 lk_yX7_in ls_yX7_in 3 rfl hd_X7_in (by decide) (by decide) (Nat.le_of_ble_eq_true rfl) dX7_moving_6 (k_X7_in l D cy (wM cy a) S fu ((x1).toInt64) (1 : Int64) (9 : Int64) _ hc_1) (fun H locs hw => ?_)
  refine lv_if_ne (tgt := 15) hx hb dX7_moving_9 (by decide) (fun c_3 => ?_) (fun c_3 => ?_)
  · have h := if_at_f c_3 h
    refine lv_aload_n hx hb dX7_moving_15 rfl (lv_at hl 0 rfl) ?_
    obtain ⟨v_5, hc_4, h⟩ := bd_at h
    refine caVI (As := []) (rest := []) hC hw hl.1 lm_RX7_109 li_RX7 lk_yX7_lacks li_yX7_lacks ll_yX7_lacks 0 5 (cM_0 cy a S) rfl 0 rfl hd_X7_lacks (by decide) (by decide) (Nat.le_of_ble_eq_true rfl) dX7_moving_16 (k_X7_lacks l D cy a fu S _ hc_4) (fun H locs hw => ?_)
    refine lv_if_ne (tgt := 31) hx hb dX7_moving_19 (by decide) (fun c_6 => ?_) (fun c_6 => ?_)
    · have h := if_at_f c_6 h
      refine lv_bipush (v := -103) hx hb dX7_moving_31 (by decide) ?_
      exact rtI hC hr hk hw (so_at2 h).1 (so_at2 h).2 dX7_moving_33
    · have h := if_at_t c_6 h
      refine lv_aload_n hx hb dX7_moving_22 rfl (lv_at hl 0 rfl) ?_
      refine gf (v := .int (stI S 6)) hC hw in_X7 0 5 14 (cM_0 cy a S) rfl (by decide) lf_RX7_183 rfl rfl dX7_moving_23 ?_
      refine lv_bipush (v := 10) hx hb dX7_moving_26 (by decide) ?_
      refine lv_icmp_ne (tgt := 34) hx hb dX7_moving_28 (by decide) (fun c_7 => ?_) (fun c_7 => ?_)
      · have h := if_at_f c_7 h
        refine lv_aload_n hx hb dX7_moving_34 rfl (lv_at hl 0 rfl) ?_
        refine lv_dup hx hb dX7_moving_35 rfl ?_
        refine gf (v := .int (stI S 6)) hC hw in_X7 0 5 14 (cM_0 cy a S) rfl (by decide) lf_RX7_183 rfl rfl dX7_moving_36 ?_
        refine lv_iconst (v := 1) hx hb dX7_moving_39 (by decide) ?_
        refine lv_iadd hx hb dX7_moving_40 ?_
        refine pf (ty := .int) (v := .int (((stI S 6) + (1 : Int32)))) hC hw in_X7 tyX7_ok nmX7 0 5 14 (cM_0 cy a S) rfl (by decide) lf_RX7_183 rfl rfl (by decide +kernel) rfl rfl (Nat.le_of_ble_eq_true rfl) (sM_14 cy a S (((stI S 6) + (1 : Int32)))) dX7_moving_41 (fun H locs hw => ?_)
        obtain ⟨S_8, hw, h⟩ := nmw (P := fun z => InW D (wM cy a) A s.heap H locs z) hw h
        refine lv_iconst (v := 0) hx hb dX7_moving_44 (by decide) ?_
        refine lv_istore_n (lv' := [(2, .int (0 : Int32)), (0, .ref (a 0)), (1, .int x1)]) hx hb dX7_moving_45 rfl hl (by decide) rfl (fun ls hl => ?_)
        refine lq2_ok (fun (x2_9 : Int32) (S_10 : ST) => ∀ (H : Heap) (locs : List Loc) (ls : Array Slot), InW D (wM cy a) A s.heap H locs S_10 → lv_has ls 3 [(0, .ref (a 0)), (1, .int x1), (2, .int x2_9)] → W p l e (rmN 3) s m args below meth c H locs 0 0 (QI below args s D (wM cy a) A r S') (F0 m 46 ls [])) ?_ fu (0 : Int32) S_8 h H locs ls hw (lv_sub hl [1, 2, 0] rfl)
        intro ag_11 hag_11 x2_9 S_10 h H locs ls hw hl
        unfold m_X7_moving_L46 at h
        refine lv_iload_n hx hb dX7_moving_46 rfl (lv_at hl 2 rfl) ?_
        refine lv_iconst (v := 4) hx hb dX7_moving_47 (by decide) ?_
        refine lv_icmp_ge (tgt := 68) hx hb dX7_moving_48 (by decide) (fun c_12 => ?_) (fun c_12 => ?_)
        · have h := if_at_t c_12 h
          refine lv_iconst (v := -1) hx hb dX7_moving_68 (by decide) ?_
          exact rtI hC hr hk hw (so_at2 h).1 (so_at2 h).2 dX7_moving_69
        · have h := if_at_f c_12 h
          refine lv_aload_n hx hb dX7_moving_51 rfl (lv_at hl 0 rfl) ?_
          refine lv_iload_n hx hb dX7_moving_52 rfl (lv_at hl 2 rfl) ?_
          refine lv_iload_n hx hb dX7_moving_53 rfl (lv_at hl 1 rfl) ?_
          obtain ⟨v_14, S_15, hc_13, h⟩ := bd2_at h
          refine caVI (As := [.int x2_9, .int x1]) (rest := []) hC hw hl.1 lm_RX7_186 li_RX7 lk_yX7_isMovedBy li_yX7_isMovedBy ll_yX7_isMovedBy 0 5 (cM_0 cy a S_10) rfl 2 rfl hd_X7_isMovedBy (by decide) (by decide) (Nat.le_of_ble_eq_true rfl) dX7_moving_54 (k_X7_isMovedBy l D cy a fu x2_9 x1 S_10 _ _ hc_13) (fun H locs hw => ?_)
          refine lv_if_eq (tgt := 62) hx hb dX7_moving_57 (by decide) (fun c_16 => ?_) (fun c_16 => ?_)
          · have h := if_at_t c_16 h
            obtain ⟨x2_17, ex2_17⟩ : ∃ z : Int32, z = x2_9 + (1 : Int32) := ⟨_, rfl⟩
            have h := nm_at ex2_17 h
            refine lv_iinc (v := x2_17) (lv' := [(2, .int x2_17), (0, .ref (a 0)), (1, .int x1)]) hx hb dX7_moving_62 hl (k := 2) rfl (by rw [ex2_17]; rfl) (by decide) rfl (fun ls hl => ?_)
            refine lv_goto (tgt := 46) hx hb dX7_moving_65 (by decide) ?_
            exact hag_11 x2_17 S_15 h H locs ls hw (lv_sub hl [1, 2, 0] rfl)
          · have h := if_at_f c_16 h
            refine lv_iload_n hx hb dX7_moving_60 rfl (lv_at hl 2 rfl) ?_
            exact rtI hC hr hk hw (so_at2 h).1 (so_at2 h).2 dX7_moving_61
      · have h := if_at_t c_7 h
        refine lv_bipush (v := -103) hx hb dX7_moving_31 (by decide) ?_
        exact rtI hC hr hk hw (so_at2 h).1 (so_at2 h).2 dX7_moving_33
  · have h := if_at_t c_3 h
    refine lv_bipush (v := -102) hx hb dX7_moving_12 (by decide) ?_
    exact rtI hC hr hk hw (so_at2 h).1 (so_at2 h).2 dX7_moving_14
def m_X7_ashes (fu : Nat) (x1 : Int32) (S : ST) : Option (Int32 × ST) :=
  bd (m_X7_in fu ((x1).toInt64) (-1 : Int64) (((((1 : Int32) <<< ((stI S 4) &&& (31 : Int32))) - (1 : Int32))).toInt64)) (fun v_2 => (if v_2 = (0 : Int32) then some ((-102 : Int32), S) else (if (stI S 7) = (5 : Int32) then some ((-104 : Int32), S) else gd (inB ((stI S 7)) 5) (nm (wrA S 9 ((stI S 7)) x1) (fun S_5 => nm (puI S_5 7 (((stI S_5 7) + (1 : Int32)))) (fun S_6 => some ((stI S_6 7), S_6)))))))
set_option maxRecDepth 100000 in
set_option maxHeartbeats 4000000 in
theorem k_X7_ashes (l : Launch) (D : va_G) (cy : ClassId) (a : Nat → Nat) (fu : Nat) (x1 : Int32) (S : ST) (r : Int32) (S' : ST) (h : m_X7_ashes fu x1 S = some (r, S')) : CtI l yX7_ashes cX7_ashes 2 (some .int) 1 [.ref (a 0), .int x1] D cy (wM cy a) S r S' := by
  refine CtI_of (by decide) (Nat.le_of_ble_eq_true rfl) ?_
  intro p e s m args below meth c A ls hC hr hk hw hl
  have hC : Cx p s m c RX7 cX7_ashes 2 args D cy := hC
  have hx := hC.1
  have hb := hC.2.1
  have hl : lv_has ls 2 [(0, .ref (a 0)), (1, .int x1)] := hl
  obtain ⟨H, eH⟩ : ∃ z : Heap, z = s.heap := ⟨_, rfl⟩
  obtain ⟨locs, elocs⟩ : ∃ z : List Loc, z = [] := ⟨_, rfl⟩
  have hw : InW D (wM cy a) A s.heap H locs S := by rw [eH, elocs]; exact hw
  suffices hsu : W p l e (rmN 1) s m args below meth c H locs 0 0 (QI below args s D (wM cy a) A r S') (F0 m 0 ls []) by rw [eH, elocs] at hsu; exact hsu
  unfold m_X7_ashes at h
  refine lv_iload_n hx hb dX7_ashes_0 rfl (lv_at hl 1 rfl) ?_
  refine lv_i2l hx hb dX7_ashes_1 rfl ?_
  refine lv_ldc2 hx hb hC.2.2.2.1 (hC.2.2.2.2.1 _ lc_RX7_189) dX7_ashes_2 ?_
  refine lv_iconst (v := 1) hx hb dX7_ashes_5 (by decide) ?_
  refine lv_aload_n hx hb dX7_ashes_6 rfl (lv_at hl 0 rfl) ?_
  refine gf (v := .int (stI S 4)) hC hw in_X7 0 5 6 (cM_0 cy a S) rfl (by decide) lf_RX7_81 rfl rfl dX7_ashes_7 ?_
  refine lv_ishl hx hb dX7_ashes_10 ?_
  refine lv_iconst (v := 1) hx hb dX7_ashes_11 (by decide) ?_
  refine lv_isub hx hb dX7_ashes_12 ?_
  refine lv_i2l hx hb dX7_ashes_13 rfl ?_
  obtain ⟨v_2, hc_1, h⟩ := bd_at h
  refine caSI (As := [.long (x1).toInt64, .long (-1 : Int64), .long ((((1 : Int32) <<< ((stI S 4) &&& (31 : Int32))) - (1 : Int32))).toInt64]) (rest := []) hC hw hl.1 lm_RX7_61 li_RX7 lk_yX7_in ls_yX7_in 3 rfl hd_X7_in (by decide) (by decide) (Nat.le_of_ble_eq_true rfl) dX7_ashes_14 (k_X7_in l D cy (wM cy a) S fu ((x1).toInt64) (-1 : Int64) (((((1 : Int32) <<< ((stI S 4) &&& (31 : Int32))) - (1 : Int32))).toInt64) _ hc_1) (fun H locs hw => ?_)
  refine lv_if_ne (tgt := 23) hx hb dX7_ashes_17 (by decide) (fun c_3 => ?_) (fun c_3 => ?_)
  · have h := if_at_f c_3 h
    refine lv_aload_n hx hb dX7_ashes_23 rfl (lv_at hl 0 rfl) ?_
    refine gf (v := .int (stI S 7)) hC hw in_X7 0 5 16 (cM_0 cy a S) rfl (by decide) lf_RX7_87 rfl rfl dX7_ashes_24 ?_
    refine lv_iconst (v := 5) hx hb dX7_ashes_27 (by decide) ?_
    refine lv_icmp_ne (tgt := 34) hx hb dX7_ashes_28 (by decide) (fun c_4 => ?_) (fun c_4 => ?_)
    · have h := if_at_f c_4 h
      refine lv_aload_n hx hb dX7_ashes_34 rfl (lv_at hl 0 rfl) ?_
      refine gf (v := .ref (a 10)) hC hw in_X7 0 5 17 (cM_0 cy a S) rfl (by decide) lf_RX7_37 rfl rfl dX7_ashes_35 ?_
      refine lv_aload_n hx hb dX7_ashes_38 rfl (lv_at hl 0 rfl) ?_
      refine gf (v := .int (stI S 7)) hC hw in_X7 0 5 16 (cM_0 cy a S) rfl (by decide) lf_RX7_87 rfl rfl dX7_ashes_39 ?_
      refine lv_iload_n hx hb dX7_ashes_42 rfl (lv_at hl 1 rfl) ?_
      obtain ⟨hi, h⟩ := gd_at h
      refine pa hC hw 10 (cM_10 cy a S) hi (rM_10 cy a S) dX7_ashes_43 (fun H locs hw => ?_)
      obtain ⟨S_5, hw, h⟩ := nmw (P := fun z => InW D (wM cy a) A s.heap H locs z) hw h
      refine lv_aload_n hx hb dX7_ashes_44 rfl (lv_at hl 0 rfl) ?_
      refine lv_dup hx hb dX7_ashes_45 rfl ?_
      refine gf (v := .int (stI S_5 7)) hC hw in_X7 0 5 16 (cM_0 cy a S_5) rfl (by decide) lf_RX7_87 rfl rfl dX7_ashes_46 ?_
      refine lv_iconst (v := 1) hx hb dX7_ashes_49 (by decide) ?_
      refine lv_iadd hx hb dX7_ashes_50 ?_
      refine pf (ty := .int) (v := .int (((stI S_5 7) + (1 : Int32)))) hC hw in_X7 tyX7_ok nmX7 0 5 16 (cM_0 cy a S_5) rfl (by decide) lf_RX7_87 rfl rfl (by decide +kernel) rfl rfl (Nat.le_of_ble_eq_true rfl) (sM_16 cy a S_5 (((stI S_5 7) + (1 : Int32)))) dX7_ashes_51 (fun H locs hw => ?_)
      obtain ⟨S_6, hw, h⟩ := nmw (P := fun z => InW D (wM cy a) A s.heap H locs z) hw h
      refine lv_aload_n hx hb dX7_ashes_54 rfl (lv_at hl 0 rfl) ?_
      refine gf (v := .int (stI S_6 7)) hC hw in_X7 0 5 16 (cM_0 cy a S_6) rfl (by decide) lf_RX7_87 rfl rfl dX7_ashes_55 ?_
      exact rtI hC hr hk hw (so_at2 h).1 (so_at2 h).2 dX7_ashes_58
    · have h := if_at_t c_4 h
      refine lv_bipush (v := -104) hx hb dX7_ashes_31 (by decide) ?_
      exact rtI hC hr hk hw (so_at2 h).1 (so_at2 h).2 dX7_ashes_33
  · have h := if_at_t c_3 h
    refine lv_bipush (v := -102) hx hb dX7_ashes_20 (by decide) ?_
    exact rtI hC hr hk hw (so_at2 h).1 (so_at2 h).2 dX7_ashes_22
