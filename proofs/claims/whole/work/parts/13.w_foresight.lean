def m_X1_waysToLive_L26 (fu : Nat) (rec : Int64 → Int32 → Int32 → ST → Option Int32) (x1 : Int64) (x3 : Int32) (x4 : Int32) (S : ST) (j_7 : Int32 → Int32 → Option Int32) (ag_17 : Int32 → Int32 → Int32 → Option Int32) (x5_14 : Int32) (x6_15 : Int32) (x7_16 : Int32) : Option Int32 :=
  (if (6 : Int32) ≤ x7_16 then j_7 x5_14 x6_15 else bd (m_X3_tenthsOf fu x7_16 S) (fun v_20 => bd (m_X5_fullness fu x1 x7_16) (fun v_22 => jn2 (fun (x5_23 : Int32) (x6_24 : Int32) => nm (x7_16 + (1 : Int32)) (fun x7_26 => ag_17 x5_23 x6_24 x7_26)) (fun j_25 => (if v_22 = (0 : Int32) then nm ((x6_15 + v_20)) (fun x6_36 => j_25 x5_14 x6_36) else (if v_20 ≤ (0 : Int32) then j_25 x5_14 x6_15 else bd (m_X0_burntDown fu x1 x7_16 S) (fun v_30 => bd (m_X0_rumoursGrown fu v_30 S) (fun v_32 => bd (rec v_32 x3 ((x4 - (1 : Int32))) S) (fun v_34 => nm ((x5_14 + (v_20 * v_34))) (fun x5_35 => j_25 x5_35 x6_15))))))))))
def m_X1_waysToLive_B (fu : Nat) (rec : Int64 → Int32 → Int32 → ST → Option Int32) (x1 : Int64) (x3 : Int32) (x4 : Int32) (S : ST) : Option Int32 :=
  bd (m_X5_lives fu x1 x3) (fun v_2 => (if v_2 = (0 : Int32) then some (0 : Int32) else (if (0 : Int32) < x4 then jn2 (fun (x5_5 : Int32) (x6_6 : Int32) => (if x6_6 ≤ (0 : Int32) then some x5_5 else bd (m_X0_rumoursGrown fu x1 S) (fun v_10 => bd (rec v_10 x3 ((x4 - (1 : Int32))) S) (fun v_12 => nm ((x5_5 + (x6_6 * v_12))) (fun x5_13 => some x5_13))))) (fun j_7 => lq3 (m_X1_waysToLive_L26 fu rec x1 x3 x4 S j_7) fu (0 : Int32) (0 : Int32) (0 : Int32)) else some (1 : Int32))))
def m_X1_waysToLive (fu : Nat) : Nat → Int64 → Int32 → Int32 → ST → Option Int32
  | 0 => fun _ _ _ _ => none
  | d + 1 => m_X1_waysToLive_B fu (m_X1_waysToLive fu d)
set_option maxRecDepth 100000 in
set_option maxHeartbeats 4000000 in
theorem k_X1_waysToLive_B (l : Launch) (D : va_G) (cy : ClassId) (a : Nat → Nat) (fu lv : Nat) (rec : Int64 → Int32 → Int32 → ST → Option Int32) (hrec : ∀ (x1 : Int64) (x3 : Int32) (x4 : Int32) (S : ST) (r : Int32), rec x1 x3 x4 S = some r → CtI l yX1_waysToLive cX1_waysToLive 11 (some .int) (lv + 3) [.ref (a 13), .long x1, .int x3, .int x4] D cy (wD cy a) S r S) (x1 : Int64) (x3 : Int32) (x4 : Int32) (S : ST) (r : Int32) (h : m_X1_waysToLive_B fu rec x1 x3 x4 S = some r) : CtI l yX1_waysToLive cX1_waysToLive 11 (some .int) (lv + 4) [.ref (a 13), .long x1, .int x3, .int x4] D cy (wD cy a) S r S := by
  refine CtI_of (by decide) (Nat.le_of_ble_eq_true rfl) ?_
  intro p e s m args below meth c A ls hC hr hk hw hl
  have hC : Cx p s m c RX1 cX1_waysToLive 11 args D cy := hC
  have hx := hC.1
  have hb := hC.2.1
  have hl : lv_has ls 11 [(0, .ref (a 13)), (1, .long x1), (3, .int x3), (4, .int x4)] := hl
  obtain ⟨H, eH⟩ : ∃ z : Heap, z = s.heap := ⟨_, rfl⟩
  obtain ⟨locs, elocs⟩ : ∃ z : List Loc, z = [] := ⟨_, rfl⟩
  have hw : InW D (wD cy a) A s.heap H locs S := by rw [eH, elocs]; exact hw
  suffices hsu : W p l e (rmN (lv + 4)) s m args below meth c H locs 0 0 (QI below args s D (wD cy a) A r S) (F0 m 0 ls []) by rw [eH, elocs] at hsu; exact hsu
  unfold m_X1_waysToLive_B at h
  refine lv_lload_n hx hb dX1_waysToLive_0 rfl (lv_at hl 1 rfl) ?_
  refine lv_iload_n hx hb dX1_waysToLive_1 rfl (lv_at hl 2 rfl) ?_
  obtain ⟨v_2, hc_1, h⟩ := bd_at h
  refine caSI (As := [.long x1, .int x3]) (rest := []) hC hw hl.1 lm_RX1_19 li_RX5 lk_yX5_lives ls_yX5_lives 2 rfl hd_X5_lives (by omega) (by decide) (Nat.le_of_ble_eq_true rfl) dX1_waysToLive_2 (k_X5_lives l D cy (wD cy a) S fu x1 x3 _ hc_1) (fun H locs hw => ?_)
  refine lv_if_ne (tgt := 10) hx hb dX1_waysToLive_5 (by decide) (fun c_3 => ?_) (fun c_3 => ?_)
  · have h := if_at_f c_3 h
    refine lv_iload hx hb dX1_waysToLive_10 (lv_at hl 3 rfl) ?_
    refine lv_if_gt (tgt := 17) hx hb dX1_waysToLive_12 (by decide) (fun c_4 => ?_) (fun c_4 => ?_)
    · have h := if_at_t c_4 h
      refine lv_iconst (v := 0) hx hb dX1_waysToLive_17 (by decide) ?_
      refine lv_istore (lv' := [(5, .int (0 : Int32)), (0, .ref (a 13)), (1, .long x1), (3, .int x3), (4, .int x4)]) hx hb dX1_waysToLive_18 hl (by decide) rfl (fun ls hl => ?_)
      refine lv_iconst (v := 0) hx hb dX1_waysToLive_20 (by decide) ?_
      refine lv_istore (lv' := [(6, .int (0 : Int32)), (5, .int (0 : Int32)), (0, .ref (a 13)), (1, .long x1), (3, .int x3), (4, .int x4)]) hx hb dX1_waysToLive_21 hl (by decide) rfl (fun ls hl => ?_)
      refine lv_iconst (v := 0) hx hb dX1_waysToLive_23 (by decide) ?_
      refine lv_istore (lv' := [(7, .int (0 : Int32)), (6, .int (0 : Int32)), (5, .int (0 : Int32)), (0, .ref (a 13)), (1, .long x1), (3, .int x3), (4, .int x4)]) hx hb dX1_waysToLive_24 hl (by decide) rfl (fun ls hl => ?_)
      refine jn2_ok (fun (x5_5 : Int32) (x6_6 : Int32) => ∀ (H : Heap) (locs : List Loc) (ls : Array Slot), InW D (wD cy a) A s.heap H locs S → lv_has ls 11 [(0, .ref (a 13)), (1, .long x1), (3, .int x3), (4, .int x4), (5, .int x5_5), (6, .int x6_6)] → W p l e (rmN (lv + 4)) s m args below meth c H locs 0 0 (QI below args s D (wD cy a) A r S) (F0 m 112 ls [])) ?_ ?_ h
      · intro x5_5 x6_6 h H locs ls hw hl
        refine lv_iload hx hb dX1_waysToLive_112 (lv_at hl 5 rfl) ?_
        refine lv_if_le (tgt := 142) hx hb dX1_waysToLive_114 (by decide) (fun c_8 => ?_) (fun c_8 => ?_)
        · have h := if_at_t c_8 h
          refine lv_iload hx hb dX1_waysToLive_142 (lv_at hl 4 rfl) ?_
          exact rtI hC hr hk hw (so_at h) rfl dX1_waysToLive_144
        · have h := if_at_f c_8 h
          refine lv_iload hx hb dX1_waysToLive_117 (lv_at hl 4 rfl) ?_
          refine lv_iload hx hb dX1_waysToLive_119 (lv_at hl 5 rfl) ?_
          refine lv_aload_n hx hb dX1_waysToLive_121 rfl (lv_at hl 0 rfl) ?_
          refine lv_aload_n hx hb dX1_waysToLive_122 rfl (lv_at hl 0 rfl) ?_
          refine gf (v := .ref (a 5)) hC hw in_X1 13 1 1 (cD_13 cy a S) rfl (by decide) lf_RX1_15 rfl rfl dX1_waysToLive_123 ?_
          refine lv_lload_n hx hb dX1_waysToLive_126 rfl (lv_at hl 1 rfl) ?_
          obtain ⟨v_10, hc_9, h⟩ := bd_at h
          refine caVL (As := [.long x1]) (rest := [.ref (a 13), .int x6_6, .int x5_5]) hC hw hl.1 lm_RX1_41 li_RX0 lk_yX0_rumoursGrown li_yX0_rumoursGrown ll_yX0_rumoursGrown 5 0 (cD_5 cy a S) rfl 1 rfl hd_X0_rumoursGrown (by omega) (by decide) (Nat.le_of_ble_eq_true rfl) dX1_waysToLive_127 (k_X0_rumoursGrown l D cy a fu x1 S _ hc_9) (fun H locs hw => ?_)
          refine lv_iload_n hx hb dX1_waysToLive_130 rfl (lv_at hl 2 rfl) ?_
          refine lv_iload hx hb dX1_waysToLive_131 (lv_at hl 3 rfl) ?_
          refine lv_iconst (v := 1) hx hb dX1_waysToLive_133 (by decide) ?_
          refine lv_isub hx hb dX1_waysToLive_134 ?_
          obtain ⟨v_12, hc_11, h⟩ := bd_at h
          refine caVI (As := [.long v_10, .int x3, .int (x4 - (1 : Int32))]) (rest := [.int x6_6, .int x5_5]) hC hw hl.1 lm_RX1_45 li_RX1 lk_yX1_waysToLive li_yX1_waysToLive ll_yX1_waysToLive 13 1 (cD_13 cy a S) rfl 3 rfl hd_X1_waysToLive (by omega) (by decide) (Nat.le_of_ble_eq_true rfl) dX1_waysToLive_135 (hrec v_10 x3 ((x4 - (1 : Int32))) S _ hc_11) (fun H locs hw => ?_)
          refine lv_imul hx hb dX1_waysToLive_138 ?_
          refine lv_iadd hx hb dX1_waysToLive_139 ?_
          refine lv_topi (fun x5_13 ex5_13 => ?_)
          have h := nm_at ex5_13 h
          refine lv_istore (lv' := [(5, .int x5_13), (0, .ref (a 13)), (1, .long x1), (3, .int x3), (4, .int x4), (6, .int x6_6)]) hx hb dX1_waysToLive_140 hl (by decide) rfl (fun ls hl => ?_)
          refine lv_iload hx hb dX1_waysToLive_142 (lv_at hl 0 rfl) ?_
          exact rtI hC hr hk hw (so_at h) rfl dX1_waysToLive_144
      · intro j_7 hj_7 h
        refine lq3_ok (fun (x5_14 : Int32) (x6_15 : Int32) (x7_16 : Int32) => ∀ (H : Heap) (locs : List Loc) (ls : Array Slot), InW D (wD cy a) A s.heap H locs S → lv_has ls 11 [(0, .ref (a 13)), (1, .long x1), (3, .int x3), (4, .int x4), (5, .int x5_14), (6, .int x6_15), (7, .int x7_16)] → W p l e (rmN (lv + 4)) s m args below meth c H locs 0 0 (QI below args s D (wD cy a) A r S) (F0 m 26 ls [])) ?_ fu (0 : Int32) (0 : Int32) (0 : Int32) h H locs ls hw (lv_sub hl [3, 4, 5, 6, 2, 1, 0] rfl)
        intro ag_17 hag_17 x5_14 x6_15 x7_16 h H locs ls hw hl
        unfold m_X1_waysToLive_L26 at h
        refine lv_iload hx hb dX1_waysToLive_26 (lv_at hl 6 rfl) ?_
        refine lv_bipush (v := 6) hx hb dX1_waysToLive_28 (by decide) ?_
        refine lv_icmp_ge (tgt := 112) hx hb dX1_waysToLive_30 (by decide) (fun c_18 => ?_) (fun c_18 => ?_)
        · have h := if_at_t c_18 h
          exact hj_7 x5_14 x6_15 h H locs ls hw (lv_sub hl [0, 1, 2, 3, 4, 5] rfl)
        · have h := if_at_f c_18 h
          refine lv_aload_n hx hb dX1_waysToLive_33 rfl (lv_at hl 0 rfl) ?_
          refine gf (v := .ref (a 3)) hC hw in_X1 13 1 0 (cD_13 cy a S) rfl (by decide) lf_RX1_9 rfl rfl dX1_waysToLive_34 ?_
          refine lv_iload hx hb dX1_waysToLive_37 (lv_at hl 6 rfl) ?_
          obtain ⟨v_20, hc_19, h⟩ := bd_at h
          refine caVI (As := [.int x7_16]) (rest := []) hC hw hl.1 lm_RX1_25 li_RX3 lk_yX3_tenthsOf li_yX3_tenthsOf ll_yX3_tenthsOf 3 2 (cD_3 cy a S) rfl 1 rfl hd_X3_tenthsOf (by omega) (by decide) (Nat.le_of_ble_eq_true rfl) dX1_waysToLive_39 (k_X3_tenthsOf l D cy a fu x7_16 S _ hc_19) (fun H locs hw => ?_)
          refine lv_istore (lv' := [(8, .int v_20), (0, .ref (a 13)), (1, .long x1), (3, .int x3), (4, .int x4), (5, .int x5_14), (6, .int x6_15), (7, .int x7_16)]) hx hb dX1_waysToLive_42 hl (by decide) rfl (fun ls hl => ?_)
          refine lv_lload_n hx hb dX1_waysToLive_44 rfl (lv_at hl 2 rfl) ?_
          refine lv_iload hx hb dX1_waysToLive_45 (lv_at hl 7 rfl) ?_
          obtain ⟨v_22, hc_21, h⟩ := bd_at h
          refine caSI (As := [.long x1, .int x7_16]) (rest := []) hC hw hl.1 lm_RX1_31 li_RX5 lk_yX5_fullness ls_yX5_fullness 2 rfl hd_X5_fullness (by omega) (by decide) (Nat.le_of_ble_eq_true rfl) dX1_waysToLive_47 (k_X5_fullness l D cy (wD cy a) S fu x1 x7_16 _ hc_21) (fun H locs hw => ?_)
          refine jn2_ok (fun (x5_23 : Int32) (x6_24 : Int32) => ∀ (H : Heap) (locs : List Loc) (ls : Array Slot), InW D (wD cy a) A s.heap H locs S → lv_has ls 11 [(0, .ref (a 13)), (1, .long x1), (3, .int x3), (4, .int x4), (5, .int x5_23), (6, .int x6_24), (7, .int x7_16)] → W p l e (rmN (lv + 4)) s m args below meth c H locs 0 0 (QI below args s D (wD cy a) A r S) (F0 m 106 ls [])) ?_ ?_ h
          · intro x5_23 x6_24 h H locs ls hw hl
            obtain ⟨x7_26, ex7_26⟩ : ∃ z : Int32, z = x7_16 + (1 : Int32) := ⟨_, rfl⟩
            have h := nm_at ex7_26 h
            refine lv_iinc (v := x7_26) (lv' := [(7, .int x7_26), (0, .ref (a 13)), (1, .long x1), (3, .int x3), (4, .int x4), (5, .int x5_23), (6, .int x6_24)]) hx hb dX1_waysToLive_106 hl (k := 6) rfl (by rw [ex7_26]; rfl) (by decide) rfl (fun ls hl => ?_)
            refine lv_goto (tgt := 26) hx hb dX1_waysToLive_109 (by decide) ?_
            exact hag_17 x5_23 x6_24 x7_26 h H locs ls hw (lv_sub hl [1, 2, 3, 4, 5, 6, 0] rfl)
          · intro j_25 hj_25 h
            refine lv_if_ne (tgt := 63) hx hb dX1_waysToLive_50 (by decide) (fun c_27 => ?_) (fun c_27 => ?_)
            · have h := if_at_f c_27 h
              refine lv_iload hx hb dX1_waysToLive_63 (lv_at hl 0 rfl) ?_
              refine lv_if_le (tgt := 106) hx hb dX1_waysToLive_65 (by decide) (fun c_28 => ?_) (fun c_28 => ?_)
              · have h := if_at_t c_28 h
                exact hj_25 x5_14 x6_15 h H locs ls hw (lv_sub hl [1, 2, 3, 4, 5, 6, 7] rfl)
              · have h := if_at_f c_28 h
                refine lv_aload_n hx hb dX1_waysToLive_68 rfl (lv_at hl 1 rfl) ?_
                refine gf (v := .ref (a 5)) hC hw in_X1 13 1 1 (cD_13 cy a S) rfl (by decide) lf_RX1_15 rfl rfl dX1_waysToLive_69 ?_
                refine lv_lload_n hx hb dX1_waysToLive_72 rfl (lv_at hl 2 rfl) ?_
                refine lv_iload hx hb dX1_waysToLive_73 (lv_at hl 7 rfl) ?_
                obtain ⟨v_30, hc_29, h⟩ := bd_at h
                refine caVL (As := [.long x1, .int x7_16]) (rest := []) hC hw hl.1 lm_RX1_35 li_RX0 lk_yX0_burntDown li_yX0_burntDown ll_yX0_burntDown 5 0 (cD_5 cy a S) rfl 2 rfl hd_X0_burntDown (by omega) (by decide) (Nat.le_of_ble_eq_true rfl) dX1_waysToLive_75 (k_X0_burntDown l D cy a fu x1 x7_16 S _ hc_29) (fun H locs hw => ?_)
                refine lv_lstore (lv' := [(9, .long v_30), (8, .int v_20), (0, .ref (a 13)), (1, .long x1), (3, .int x3), (4, .int x4), (5, .int x5_14), (6, .int x6_15), (7, .int x7_16)]) hx hb dX1_waysToLive_78 hl (by decide) rfl (fun ls hl => ?_)
                refine lv_iload hx hb dX1_waysToLive_80 (lv_at hl 6 rfl) ?_
                refine lv_iload hx hb dX1_waysToLive_82 (lv_at hl 1 rfl) ?_
                refine lv_aload_n hx hb dX1_waysToLive_84 rfl (lv_at hl 2 rfl) ?_
                refine lv_aload_n hx hb dX1_waysToLive_85 rfl (lv_at hl 2 rfl) ?_
                refine gf (v := .ref (a 5)) hC hw in_X1 13 1 1 (cD_13 cy a S) rfl (by decide) lf_RX1_15 rfl rfl dX1_waysToLive_86 ?_
                refine lv_lload hx hb dX1_waysToLive_89 (lv_at hl 0 rfl) ?_
                obtain ⟨v_32, hc_31, h⟩ := bd_at h
                refine caVL (As := [.long v_30]) (rest := [.ref (a 13), .int v_20, .int x5_14]) hC hw hl.1 lm_RX1_41 li_RX0 lk_yX0_rumoursGrown li_yX0_rumoursGrown ll_yX0_rumoursGrown 5 0 (cD_5 cy a S) rfl 1 rfl hd_X0_rumoursGrown (by omega) (by decide) (Nat.le_of_ble_eq_true rfl) dX1_waysToLive_91 (k_X0_rumoursGrown l D cy a fu v_30 S _ hc_31) (fun H locs hw => ?_)
                refine lv_iload_n hx hb dX1_waysToLive_94 rfl (lv_at hl 4 rfl) ?_
                refine lv_iload hx hb dX1_waysToLive_95 (lv_at hl 5 rfl) ?_
                refine lv_iconst (v := 1) hx hb dX1_waysToLive_97 (by decide) ?_
                refine lv_isub hx hb dX1_waysToLive_98 ?_
                obtain ⟨v_34, hc_33, h⟩ := bd_at h
                refine caVI (As := [.long v_32, .int x3, .int (x4 - (1 : Int32))]) (rest := [.int v_20, .int x5_14]) hC hw hl.1 lm_RX1_45 li_RX1 lk_yX1_waysToLive li_yX1_waysToLive ll_yX1_waysToLive 13 1 (cD_13 cy a S) rfl 3 rfl hd_X1_waysToLive (by omega) (by decide) (Nat.le_of_ble_eq_true rfl) dX1_waysToLive_99 (hrec v_32 x3 ((x4 - (1 : Int32))) S _ hc_33) (fun H locs hw => ?_)
                refine lv_imul hx hb dX1_waysToLive_102 ?_
                refine lv_iadd hx hb dX1_waysToLive_103 ?_
                refine lv_topi (fun x5_35 ex5_35 => ?_)
                have h := nm_at ex5_35 h
                refine lv_istore (lv' := [(5, .int x5_35), (9, .long v_30), (8, .int v_20), (0, .ref (a 13)), (1, .long x1), (3, .int x3), (4, .int x4), (6, .int x6_15), (7, .int x7_16)]) hx hb dX1_waysToLive_104 hl (by decide) rfl (fun ls hl => ?_)
                exact hj_25 x5_35 x6_15 h H locs ls hw (lv_sub hl [3, 4, 5, 6, 0, 7, 8] rfl)
            · have h := if_at_t c_27 h
              refine lv_iload hx hb dX1_waysToLive_53 (lv_at hl 6 rfl) ?_
              refine lv_iload hx hb dX1_waysToLive_55 (lv_at hl 0 rfl) ?_
              refine lv_iadd hx hb dX1_waysToLive_57 ?_
              refine lv_topi (fun x6_36 ex6_36 => ?_)
              have h := nm_at ex6_36 h
              refine lv_istore (lv' := [(6, .int x6_36), (8, .int v_20), (0, .ref (a 13)), (1, .long x1), (3, .int x3), (4, .int x4), (5, .int x5_14), (7, .int x7_16)]) hx hb dX1_waysToLive_58 hl (by decide) rfl (fun ls hl => ?_)
              refine lv_goto (tgt := 106) hx hb dX1_waysToLive_60 (by decide) ?_
              exact hj_25 x5_14 x6_36 h H locs ls hw (lv_sub hl [2, 3, 4, 5, 6, 0, 7] rfl)
    · have h := if_at_f c_4 h
      refine lv_iconst (v := 1) hx hb dX1_waysToLive_15 (by decide) ?_
      exact rtI hC hr hk hw (so_at h) rfl dX1_waysToLive_16
  · have h := if_at_t c_3 h
    refine lv_iconst (v := 0) hx hb dX1_waysToLive_8 (by decide) ?_
    exact rtI hC hr hk hw (so_at h) rfl dX1_waysToLive_9
theorem k_X1_waysToLive (l : Launch) (D : va_G) (cy : ClassId) (a : Nat → Nat) (fu : Nat) : ∀ (d : Nat) (x1 : Int64) (x3 : Int32) (x4 : Int32) (S : ST) (r : Int32), m_X1_waysToLive fu d x1 x3 x4 S = some r → CtI l yX1_waysToLive cX1_waysToLive 11 (some .int) (d + 3) [.ref (a 13), .long x1, .int x3, .int x4] D cy (wD cy a) S r S
  | 0, _, _, _, _, _, h => by simp [m_X1_waysToLive] at h
  | d + 1, x1, x3, x4, S, r, h => by
    have h2 := k_X1_waysToLive_B l D cy a fu d (m_X1_waysToLive fu d) (k_X1_waysToLive l D cy a fu d) x1 x3 x4 S r h
    rw [show d + 1 + 3 = d + 4 from by omega]
    exact h2
def m_X1_bestCopy_L20 (fu : Nat) (x1 : Int32) (x2 : Int32) (S : ST) (ag_6 : Int32 → Int32 → Int32 → Option Int32) (x3_3 : Int32) (x4_4 : Int32) (x5_5 : Int32) : Option Int32 :=
  (if (6 : Int32) ≤ x5_5 then some x3_3 else bd (m_X0_mayCopy fu ((stL S 0)) x1 x5_5 S) (fun v_9 => jn2 (fun (x3_10 : Int32) (x4_11 : Int32) => nm (x5_5 + (1 : Int32)) (fun x5_13 => ag_6 x3_10 x4_11 x5_13)) (fun j_12 => (if v_9 = (0 : Int32) then j_12 x3_3 x4_4 else bd (m_X5_turned fu ((stL S 0)) x1 x5_5) (fun v_16 => bd (m_X1_waysToLive fu 8 v_16 x1 x2 S) (fun v_18 => (if v_18 ≤ x4_4 then j_12 x3_3 x4_4 else j_12 x5_5 v_18)))))))
def m_X1_bestCopy (fu : Nat) (x1 : Int32) (x2 : Int32) (S : ST) : Option Int32 :=
  bd (m_X1_waysToLive fu 8 ((stL S 0)) x1 x2 S) (fun v_2 => lq3 (m_X1_bestCopy_L20 fu x1 x2 S) fu (-1 : Int32) v_2 (0 : Int32))
set_option maxRecDepth 100000 in
set_option maxHeartbeats 4000000 in
theorem k_X1_bestCopy (l : Launch) (D : va_G) (cy : ClassId) (a : Nat → Nat) (fu : Nat) (x1 : Int32) (x2 : Int32) (S : ST) (r : Int32) (h : m_X1_bestCopy fu x1 x2 S = some r) : CtI l yX1_bestCopy cX1_bestCopy 7 (some .int) 13 [.ref (a 13), .int x1, .int x2] D cy (wD cy a) S r S := by
  refine CtI_of (by decide) (Nat.le_of_ble_eq_true rfl) ?_
  intro p e s m args below meth c A ls hC hr hk hw hl
  have hC : Cx p s m c RX1 cX1_bestCopy 7 args D cy := hC
  have hx := hC.1
  have hb := hC.2.1
  have hl : lv_has ls 7 [(0, .ref (a 13)), (1, .int x1), (2, .int x2)] := hl
  obtain ⟨H, eH⟩ : ∃ z : Heap, z = s.heap := ⟨_, rfl⟩
  obtain ⟨locs, elocs⟩ : ∃ z : List Loc, z = [] := ⟨_, rfl⟩
  have hw : InW D (wD cy a) A s.heap H locs S := by rw [eH, elocs]; exact hw
  suffices hsu : W p l e (rmN 13) s m args below meth c H locs 0 0 (QI below args s D (wD cy a) A r S) (F0 m 0 ls []) by rw [eH, elocs] at hsu; exact hsu
  unfold m_X1_bestCopy at h
  refine lv_iconst (v := -1) hx hb dX1_bestCopy_0 (by decide) ?_
  refine lv_istore_n (lv' := [(3, .int (-1 : Int32)), (0, .ref (a 13)), (1, .int x1), (2, .int x2)]) hx hb dX1_bestCopy_1 rfl hl (by decide) rfl (fun ls hl => ?_)
  refine lv_aload_n hx hb dX1_bestCopy_2 rfl (lv_at hl 1 rfl) ?_
  refine lv_aload_n hx hb dX1_bestCopy_3 rfl (lv_at hl 1 rfl) ?_
  refine gf (v := .ref (a 5)) hC hw in_X1 13 1 1 (cD_13 cy a S) rfl (by decide) lf_RX1_15 rfl rfl dX1_bestCopy_4 ?_
  refine gfN (v := .long (stL S 0)) hC hw in_X0 5 0 5 (cD_5 cy a S) rfl (by decide) lf_RX1_49 rfl rfl dX1_bestCopy_7 ?_
  refine lv_iload_n hx hb dX1_bestCopy_10 rfl (lv_at hl 2 rfl) ?_
  refine lv_iload_n hx hb dX1_bestCopy_11 rfl (lv_at hl 3 rfl) ?_
  obtain ⟨v_2, hc_1, h⟩ := bd_at h
  refine caVI (As := [.long (stL S 0), .int x1, .int x2]) (rest := []) hC hw hl.1 lm_RX1_45 li_RX1 lk_yX1_waysToLive li_yX1_waysToLive ll_yX1_waysToLive 13 1 (cD_13 cy a S) rfl 3 rfl hd_X1_waysToLive (by decide) (by decide) (Nat.le_of_ble_eq_true rfl) dX1_bestCopy_12 (k_X1_waysToLive l D cy a fu 8 ((stL S 0)) x1 x2 S _ hc_1) (fun H locs hw => ?_)
  refine lv_istore (lv' := [(4, .int v_2), (3, .int (-1 : Int32)), (0, .ref (a 13)), (1, .int x1), (2, .int x2)]) hx hb dX1_bestCopy_15 hl (by decide) rfl (fun ls hl => ?_)
  refine lv_iconst (v := 0) hx hb dX1_bestCopy_17 (by decide) ?_
  refine lv_istore (lv' := [(5, .int (0 : Int32)), (4, .int v_2), (3, .int (-1 : Int32)), (0, .ref (a 13)), (1, .int x1), (2, .int x2)]) hx hb dX1_bestCopy_18 hl (by decide) rfl (fun ls hl => ?_)
  refine lq3_ok (fun (x3_3 : Int32) (x4_4 : Int32) (x5_5 : Int32) => ∀ (H : Heap) (locs : List Loc) (ls : Array Slot), InW D (wD cy a) A s.heap H locs S → lv_has ls 7 [(0, .ref (a 13)), (1, .int x1), (2, .int x2), (3, .int x3_3), (4, .int x4_4), (5, .int x5_5)] → W p l e (rmN 13) s m args below meth c H locs 0 0 (QI below args s D (wD cy a) A r S) (F0 m 20 ls [])) ?_ fu (-1 : Int32) v_2 (0 : Int32) h H locs ls hw (lv_sub hl [3, 4, 5, 2, 1, 0] rfl)
  intro ag_6 hag_6 x3_3 x4_4 x5_5 h H locs ls hw hl
  unfold m_X1_bestCopy_L20 at h
  refine lv_iload hx hb dX1_bestCopy_20 (lv_at hl 5 rfl) ?_
  refine lv_bipush (v := 6) hx hb dX1_bestCopy_22 (by decide) ?_
  refine lv_icmp_ge (tgt := 88) hx hb dX1_bestCopy_24 (by decide) (fun c_7 => ?_) (fun c_7 => ?_)
  · have h := if_at_t c_7 h
    refine lv_iload_n hx hb dX1_bestCopy_88 rfl (lv_at hl 3 rfl) ?_
    exact rtI hC hr hk hw (so_at h) rfl dX1_bestCopy_89
  · have h := if_at_f c_7 h
    refine lv_aload_n hx hb dX1_bestCopy_27 rfl (lv_at hl 0 rfl) ?_
    refine gf (v := .ref (a 5)) hC hw in_X1 13 1 1 (cD_13 cy a S) rfl (by decide) lf_RX1_15 rfl rfl dX1_bestCopy_28 ?_
    refine lv_aload_n hx hb dX1_bestCopy_31 rfl (lv_at hl 0 rfl) ?_
    refine gf (v := .ref (a 5)) hC hw in_X1 13 1 1 (cD_13 cy a S) rfl (by decide) lf_RX1_15 rfl rfl dX1_bestCopy_32 ?_
    refine gfN (v := .long (stL S 0)) hC hw in_X0 5 0 5 (cD_5 cy a S) rfl (by decide) lf_RX1_49 rfl rfl dX1_bestCopy_35 ?_
    refine lv_iload_n hx hb dX1_bestCopy_38 rfl (lv_at hl 1 rfl) ?_
    refine lv_iload hx hb dX1_bestCopy_39 (lv_at hl 5 rfl) ?_
    obtain ⟨v_9, hc_8, h⟩ := bd_at h
    refine caVI (As := [.long (stL S 0), .int x1, .int x5_5]) (rest := []) hC hw hl.1 lm_RX1_53 li_RX0 lk_yX0_mayCopy li_yX0_mayCopy ll_yX0_mayCopy 5 0 (cD_5 cy a S) rfl 3 rfl hd_X0_mayCopy (by decide) (by decide) (Nat.le_of_ble_eq_true rfl) dX1_bestCopy_41 (k_X0_mayCopy l D cy a fu ((stL S 0)) x1 x5_5 S _ hc_8) (fun H locs hw => ?_)
    refine jn2_ok (fun (x3_10 : Int32) (x4_11 : Int32) => ∀ (H : Heap) (locs : List Loc) (ls : Array Slot), InW D (wD cy a) A s.heap H locs S → lv_has ls 7 [(0, .ref (a 13)), (1, .int x1), (2, .int x2), (3, .int x3_10), (4, .int x4_11), (5, .int x5_5)] → W p l e (rmN 13) s m args below meth c H locs 0 0 (QI below args s D (wD cy a) A r S) (F0 m 82 ls [])) ?_ ?_ h
    · intro x3_10 x4_11 h H locs ls hw hl
      obtain ⟨x5_13, ex5_13⟩ : ∃ z : Int32, z = x5_5 + (1 : Int32) := ⟨_, rfl⟩
      have h := nm_at ex5_13 h
      refine lv_iinc (v := x5_13) (lv' := [(5, .int x5_13), (0, .ref (a 13)), (1, .int x1), (2, .int x2), (3, .int x3_10), (4, .int x4_11)]) hx hb dX1_bestCopy_82 hl (k := 5) rfl (by rw [ex5_13]; rfl) (by decide) rfl (fun ls hl => ?_)
      refine lv_goto (tgt := 20) hx hb dX1_bestCopy_85 (by decide) ?_
      exact hag_6 x3_10 x4_11 x5_13 h H locs ls hw (lv_sub hl [1, 2, 3, 4, 5, 0] rfl)
    · intro j_12 hj_12 h
      refine lv_if_eq (tgt := 82) hx hb dX1_bestCopy_44 (by decide) (fun c_14 => ?_) (fun c_14 => ?_)
      · have h := if_at_t c_14 h
        exact hj_12 x3_3 x4_4 h H locs ls hw (lv_sub hl [0, 1, 2, 3, 4, 5] rfl)
      · have h := if_at_f c_14 h
        refine lv_aload_n hx hb dX1_bestCopy_47 rfl (lv_at hl 0 rfl) ?_
        refine lv_aload_n hx hb dX1_bestCopy_48 rfl (lv_at hl 0 rfl) ?_
        refine gf (v := .ref (a 5)) hC hw in_X1 13 1 1 (cD_13 cy a S) rfl (by decide) lf_RX1_15 rfl rfl dX1_bestCopy_49 ?_
        refine gfN (v := .long (stL S 0)) hC hw in_X0 5 0 5 (cD_5 cy a S) rfl (by decide) lf_RX1_49 rfl rfl dX1_bestCopy_52 ?_
        refine lv_iload_n hx hb dX1_bestCopy_55 rfl (lv_at hl 1 rfl) ?_
        refine lv_iload hx hb dX1_bestCopy_56 (lv_at hl 5 rfl) ?_
        obtain ⟨v_16, hc_15, h⟩ := bd_at h
        refine caSL (As := [.long (stL S 0), .int x1, .int x5_5]) (rest := [.ref (a 13)]) hC hw hl.1 lm_RX1_57 li_RX5 lk_yX5_turned ls_yX5_turned 3 rfl hd_X5_turned (by decide) (by decide) (Nat.le_of_ble_eq_true rfl) dX1_bestCopy_58 (k_X5_turned l D cy (wD cy a) S fu ((stL S 0)) x1 x5_5 _ hc_15) (fun H locs hw => ?_)
        refine lv_iload_n hx hb dX1_bestCopy_61 rfl (lv_at hl 1 rfl) ?_
        refine lv_iload_n hx hb dX1_bestCopy_62 rfl (lv_at hl 2 rfl) ?_
        obtain ⟨v_18, hc_17, h⟩ := bd_at h
        refine caVI (As := [.long v_16, .int x1, .int x2]) (rest := []) hC hw hl.1 lm_RX1_45 li_RX1 lk_yX1_waysToLive li_yX1_waysToLive ll_yX1_waysToLive 13 1 (cD_13 cy a S) rfl 3 rfl hd_X1_waysToLive (by decide) (by decide) (Nat.le_of_ble_eq_true rfl) dX1_bestCopy_63 (k_X1_waysToLive l D cy a fu 8 v_16 x1 x2 S _ hc_17) (fun H locs hw => ?_)
        refine lv_istore (lv' := [(6, .int v_18), (0, .ref (a 13)), (1, .int x1), (2, .int x2), (3, .int x3_3), (4, .int x4_4), (5, .int x5_5)]) hx hb dX1_bestCopy_66 hl (by decide) rfl (fun ls hl => ?_)
        refine lv_iload hx hb dX1_bestCopy_68 (lv_at hl 0 rfl) ?_
        refine lv_iload hx hb dX1_bestCopy_70 (lv_at hl 5 rfl) ?_
        refine lv_icmp_le (tgt := 82) hx hb dX1_bestCopy_72 (by decide) (fun c_19 => ?_) (fun c_19 => ?_)
        · have h := if_at_t c_19 h
          exact hj_12 x3_3 x4_4 h H locs ls hw (lv_sub hl [1, 2, 3, 4, 5, 6] rfl)
        · have h := if_at_f c_19 h
          refine lv_iload hx hb dX1_bestCopy_75 (lv_at hl 0 rfl) ?_
          refine lv_istore (lv' := [(4, .int v_18), (6, .int v_18), (0, .ref (a 13)), (1, .int x1), (2, .int x2), (3, .int x3_3), (5, .int x5_5)]) hx hb dX1_bestCopy_77 hl (by decide) rfl (fun ls hl => ?_)
          refine lv_iload hx hb dX1_bestCopy_79 (lv_at hl 6 rfl) ?_
          refine lv_istore_n (lv' := [(3, .int x5_5), (4, .int v_18), (6, .int v_18), (0, .ref (a 13)), (1, .int x1), (2, .int x2), (5, .int x5_5)]) hx hb dX1_bestCopy_81 rfl hl (by decide) rfl (fun ls hl => ?_)
          exact hj_12 x5_5 v_18 h H locs ls hw (lv_sub hl [3, 4, 5, 0, 1, 6] rfl)
def m_X1_isLeftForSure_L21 (fu : Nat) (rec : Int32 → Int32 → Int32 → ST → Option Int32) (x1 : Int32) (x2 : Int32) (x3 : Int32) (S : ST) (ag_6 : Int32 → Option Int32) (x4_5 : Int32) : Option Int32 :=
  (if (6 : Int32) ≤ x4_5 then some (1 : Int32) else bd (m_X3_mayBurn fu x4_5 S) (fun v_9 => jn0 (nm (x4_5 + (1 : Int32)) (fun x4_11 => ag_6 x4_11)) (fun j_10 => (if v_9 = (0 : Int32) then j_10 else jn1 (fun (v_13 : Int32) => jn1 (fun (v_15 : Int32) => bd (rec x1 v_15 ((x3 - (1 : Int32))) S) (fun v_18 => (if v_18 = (0 : Int32) then some (0 : Int32) else j_10))) (fun j_16 => (if v_13 = (0 : Int32) then j_16 x2 else bd (m_X2_lostWith fu x1 x4_5) (fun v_22 => j_16 ((x2 &&& (v_22 ^^^ (-1 : Int32)))))))) (fun j_14 => (if (x2 &&& ((1 : Int32) <<< (x4_5 &&& (31 : Int32)))) = (0 : Int32) then j_14 (0 : Int32) else j_14 (1 : Int32)))))))
def m_X1_isLeftForSure_B (fu : Nat) (rec : Int32 → Int32 → Int32 → ST → Option Int32) (x1 : Int32) (x2 : Int32) (x3 : Int32) (S : ST) : Option Int32 :=
  jn0 ((if x2 = (0 : Int32) then some (0 : Int32) else some (1 : Int32))) (fun j_1 => (if x2 = (0 : Int32) then j_1 else (if (0 : Int32) < x3 then lq1 (m_X1_isLeftForSure_L21 fu rec x1 x2 x3 S) fu (0 : Int32) else j_1)))
def m_X1_isLeftForSure (fu : Nat) : Nat → Int32 → Int32 → Int32 → ST → Option Int32
  | 0 => fun _ _ _ _ => none
  | d + 1 => m_X1_isLeftForSure_B fu (m_X1_isLeftForSure fu d)
set_option maxRecDepth 100000 in
set_option maxHeartbeats 4000000 in
theorem k_X1_isLeftForSure_B (l : Launch) (D : va_G) (cy : ClassId) (a : Nat → Nat) (fu lv : Nat) (rec : Int32 → Int32 → Int32 → ST → Option Int32) (hrec : ∀ (x1 : Int32) (x2 : Int32) (x3 : Int32) (S : ST) (r : Int32), rec x1 x2 x3 S = some r → CtI l yX1_isLeftForSure cX1_isLeftForSure 7 (some .boolean) (lv + 1) [.ref (a 13), .int x1, .int x2, .int x3] D cy (wD cy a) S r S) (x1 : Int32) (x2 : Int32) (x3 : Int32) (S : ST) (r : Int32) (h : m_X1_isLeftForSure_B fu rec x1 x2 x3 S = some r) : CtI l yX1_isLeftForSure cX1_isLeftForSure 7 (some .boolean) (lv + 2) [.ref (a 13), .int x1, .int x2, .int x3] D cy (wD cy a) S r S := by
  refine CtI_of (by decide) (Nat.le_of_ble_eq_true rfl) ?_
  intro p e s m args below meth c A ls hC hr hk hw hl
  have hC : Cx p s m c RX1 cX1_isLeftForSure 7 args D cy := hC
  have hx := hC.1
  have hb := hC.2.1
  have hl : lv_has ls 7 [(0, .ref (a 13)), (1, .int x1), (2, .int x2), (3, .int x3)] := hl
  obtain ⟨H, eH⟩ : ∃ z : Heap, z = s.heap := ⟨_, rfl⟩
  obtain ⟨locs, elocs⟩ : ∃ z : List Loc, z = [] := ⟨_, rfl⟩
  have hw : InW D (wD cy a) A s.heap H locs S := by rw [eH, elocs]; exact hw
  suffices hsu : W p l e (rmN (lv + 2)) s m args below meth c H locs 0 0 (QI below args s D (wD cy a) A r S) (F0 m 0 ls []) by rw [eH, elocs] at hsu; exact hsu
  unfold m_X1_isLeftForSure_B at h
  refine lv_iload_n hx hb dX1_isLeftForSure_0 rfl (lv_at hl 2 rfl) ?_
  refine jn0_ok (∀ (H : Heap) (locs : List Loc) (ls : Array Slot), InW D (wD cy a) A s.heap H locs S → lv_has ls 7 [(2, .int x2)] → W p l e (rmN (lv + 2)) s m args below meth c H locs 0 0 (QI below args s D (wD cy a) A r S) (F0 m 8 ls [])) ?_ ?_ h
  · intro h H locs ls hw hl
    refine lv_iload_n hx hb dX1_isLeftForSure_8 rfl (lv_at hl 0 rfl) ?_
    refine lv_if_eq (tgt := 16) hx hb dX1_isLeftForSure_9 (by decide) (fun c_2 => ?_) (fun c_2 => ?_)
    · have h := if_at_t c_2 h
      refine lv_iconst (v := 0) hx hb dX1_isLeftForSure_16 (by decide) ?_
      exact rtZ hC hr hk hw rfl (so_at h) rfl dX1_isLeftForSure_17
    · have h := if_at_f c_2 h
      refine lv_iconst (v := 1) hx hb dX1_isLeftForSure_12 (by decide) ?_
      refine lv_goto (tgt := 17) hx hb dX1_isLeftForSure_13 (by decide) ?_
      exact rtZ hC hr hk hw rfl (so_at h) rfl dX1_isLeftForSure_17
  · intro j_1 hj_1 h
    refine lv_if_eq (tgt := 8) hx hb dX1_isLeftForSure_1 (by decide) (fun c_3 => ?_) (fun c_3 => ?_)
    · have h := if_at_t c_3 h
      exact hj_1 h H locs ls hw (lv_sub hl [2] rfl)
    · have h := if_at_f c_3 h
      refine lv_iload_n hx hb dX1_isLeftForSure_4 rfl (lv_at hl 3 rfl) ?_
      refine lv_if_gt (tgt := 18) hx hb dX1_isLeftForSure_5 (by decide) (fun c_4 => ?_) (fun c_4 => ?_)
      · have h := if_at_t c_4 h
        refine lv_iconst (v := 0) hx hb dX1_isLeftForSure_18 (by decide) ?_
        refine lv_istore (lv' := [(4, .int (0 : Int32)), (0, .ref (a 13)), (1, .int x1), (2, .int x2), (3, .int x3)]) hx hb dX1_isLeftForSure_19 hl (by decide) rfl (fun ls hl => ?_)
        refine lq1_ok (fun (x4_5 : Int32) => ∀ (H : Heap) (locs : List Loc) (ls : Array Slot), InW D (wD cy a) A s.heap H locs S → lv_has ls 7 [(0, .ref (a 13)), (1, .int x1), (2, .int x2), (3, .int x3), (4, .int x4_5)] → W p l e (rmN (lv + 2)) s m args below meth c H locs 0 0 (QI below args s D (wD cy a) A r S) (F0 m 21 ls [])) ?_ fu (0 : Int32) h H locs ls hw (lv_sub hl [1, 2, 3, 4, 0] rfl)
        intro ag_6 hag_6 x4_5 h H locs ls hw hl
        unfold m_X1_isLeftForSure_L21 at h
        refine lv_iload hx hb dX1_isLeftForSure_21 (lv_at hl 4 rfl) ?_
        refine lv_bipush (v := 6) hx hb dX1_isLeftForSure_23 (by decide) ?_
        refine lv_icmp_ge (tgt := 98) hx hb dX1_isLeftForSure_25 (by decide) (fun c_7 => ?_) (fun c_7 => ?_)
        · have h := if_at_t c_7 h
          refine lv_iconst (v := 1) hx hb dX1_isLeftForSure_98 (by decide) ?_
          exact rtZ hC hr hk hw rfl (so_at h) rfl dX1_isLeftForSure_99
        · have h := if_at_f c_7 h
          refine lv_aload_n hx hb dX1_isLeftForSure_28 rfl (lv_at hl 0 rfl) ?_
          refine gf (v := .ref (a 3)) hC hw in_X1 13 1 0 (cD_13 cy a S) rfl (by decide) lf_RX1_9 rfl rfl dX1_isLeftForSure_29 ?_
          refine lv_iload hx hb dX1_isLeftForSure_32 (lv_at hl 4 rfl) ?_
          obtain ⟨v_9, hc_8, h⟩ := bd_at h
          refine caVI (As := [.int x4_5]) (rest := []) hC hw hl.1 lm_RX1_75 li_RX3 lk_yX3_mayBurn li_yX3_mayBurn ll_yX3_mayBurn 3 2 (cD_3 cy a S) rfl 1 rfl hd_X3_mayBurn (by omega) (by decide) (Nat.le_of_ble_eq_true rfl) dX1_isLeftForSure_34 (k_X3_mayBurn l D cy a fu x4_5 S _ hc_8) (fun H locs hw => ?_)
          refine jn0_ok (∀ (H : Heap) (locs : List Loc) (ls : Array Slot), InW D (wD cy a) A s.heap H locs S → lv_has ls 7 [(0, .ref (a 13)), (1, .int x1), (2, .int x2), (3, .int x3), (4, .int x4_5)] → W p l e (rmN (lv + 2)) s m args below meth c H locs 0 0 (QI below args s D (wD cy a) A r S) (F0 m 92 ls [])) ?_ ?_ h
          · intro h H locs ls hw hl
            obtain ⟨x4_11, ex4_11⟩ : ∃ z : Int32, z = x4_5 + (1 : Int32) := ⟨_, rfl⟩
            have h := nm_at ex4_11 h
            refine lv_iinc (v := x4_11) (lv' := [(4, .int x4_11), (0, .ref (a 13)), (1, .int x1), (2, .int x2), (3, .int x3)]) hx hb dX1_isLeftForSure_92 hl (k := 4) rfl (by rw [ex4_11]; rfl) (by decide) rfl (fun ls hl => ?_)
            refine lv_goto (tgt := 21) hx hb dX1_isLeftForSure_95 (by decide) ?_
            exact hag_6 x4_11 h H locs ls hw (lv_sub hl [1, 2, 3, 4, 0] rfl)
          · intro j_10 hj_10 h
            refine lv_if_eq (tgt := 92) hx hb dX1_isLeftForSure_37 (by decide) (fun c_12 => ?_) (fun c_12 => ?_)
            · have h := if_at_t c_12 h
              exact hj_10 h H locs ls hw (lv_sub hl [0, 1, 2, 3, 4] rfl)
            · have h := if_at_f c_12 h
              refine lv_iload_n hx hb dX1_isLeftForSure_40 rfl (lv_at hl 2 rfl) ?_
              refine lv_iconst (v := 1) hx hb dX1_isLeftForSure_41 (by decide) ?_
              refine lv_iload hx hb dX1_isLeftForSure_42 (lv_at hl 4 rfl) ?_
              refine lv_ishl hx hb dX1_isLeftForSure_44 ?_
              refine lv_iand hx hb dX1_isLeftForSure_45 ?_
              refine jn1_ok (fun (v_13 : Int32) => ∀ (H : Heap) (locs : List Loc) (ls : Array Slot), InW D (wD cy a) A s.heap H locs S → lv_has ls 7 [(0, .ref (a 13)), (1, .int x1), (2, .int x2), (3, .int x3), (4, .int x4_5)] → W p l e (rmN (lv + 2)) s m args below meth c H locs 0 0 (QI below args s D (wD cy a) A r S) (F0 m 54 ls [.int v_13])) ?_ ?_ h
              · intro v_13 h H locs ls hw hl
                refine lv_istore (lv' := [(5, .int v_13), (0, .ref (a 13)), (1, .int x1), (2, .int x2), (3, .int x3), (4, .int x4_5)]) hx hb dX1_isLeftForSure_54 hl (by decide) rfl (fun ls hl => ?_)
                refine lv_iload hx hb dX1_isLeftForSure_56 (lv_at hl 0 rfl) ?_
                refine jn1_ok (fun (v_15 : Int32) => ∀ (H : Heap) (locs : List Loc) (ls : Array Slot), InW D (wD cy a) A s.heap H locs S → lv_has ls 7 [(0, .ref (a 13)), (1, .int x1), (2, .int x2), (3, .int x3), (4, .int x4_5)] → W p l e (rmN (lv + 2)) s m args below meth c H locs 0 0 (QI below args s D (wD cy a) A r S) (F0 m 75 ls [.int v_15])) ?_ ?_ h
                · intro v_15 h H locs ls hw hl
                  refine lv_istore (lv' := [(6, .int v_15), (0, .ref (a 13)), (1, .int x1), (2, .int x2), (3, .int x3), (4, .int x4_5)]) hx hb dX1_isLeftForSure_75 hl (by decide) rfl (fun ls hl => ?_)
                  refine lv_aload_n hx hb dX1_isLeftForSure_77 rfl (lv_at hl 1 rfl) ?_
                  refine lv_iload_n hx hb dX1_isLeftForSure_78 rfl (lv_at hl 2 rfl) ?_
                  refine lv_iload hx hb dX1_isLeftForSure_79 (lv_at hl 0 rfl) ?_
                  refine lv_iload_n hx hb dX1_isLeftForSure_81 rfl (lv_at hl 4 rfl) ?_
                  refine lv_iconst (v := 1) hx hb dX1_isLeftForSure_82 (by decide) ?_
                  refine lv_isub hx hb dX1_isLeftForSure_83 ?_
                  obtain ⟨v_18, hc_17, h⟩ := bd_at h
                  refine caVI (As := [.int x1, .int v_15, .int (x3 - (1 : Int32))]) (rest := []) hC hw hl.1 lm_RX1_71 li_RX1 lk_yX1_isLeftForSure li_yX1_isLeftForSure ll_yX1_isLeftForSure 13 1 (cD_13 cy a S) rfl 3 rfl hd_X1_isLeftForSure (by omega) (by decide) (Nat.le_of_ble_eq_true rfl) dX1_isLeftForSure_84 (hrec x1 v_15 ((x3 - (1 : Int32))) S _ hc_17) (fun H locs hw => ?_)
                  refine lv_if_ne (tgt := 92) hx hb dX1_isLeftForSure_87 (by decide) (fun c_19 => ?_) (fun c_19 => ?_)
                  · have h := if_at_f c_19 h
                    exact hj_10 h H locs ls hw (lv_sub hl [1, 2, 3, 4, 5] rfl)
                  · have h := if_at_t c_19 h
                    refine lv_iconst (v := 0) hx hb dX1_isLeftForSure_90 (by decide) ?_
                    exact rtZ hC hr hk hw rfl (so_at h) rfl dX1_isLeftForSure_91
                · intro j_16 hj_16 h
                  refine lv_if_eq (tgt := 74) hx hb dX1_isLeftForSure_58 (by decide) (fun c_20 => ?_) (fun c_20 => ?_)
                  · have h := if_at_t c_20 h
                    refine lv_iload_n hx hb dX1_isLeftForSure_74 rfl (lv_at hl 3 rfl) ?_
                    exact hj_16 x2 h H locs ls hw (lv_sub hl [1, 2, 3, 4, 5] rfl)
                  · have h := if_at_f c_20 h
                    refine lv_iload_n hx hb dX1_isLeftForSure_61 rfl (lv_at hl 3 rfl) ?_
                    refine lv_iload_n hx hb dX1_isLeftForSure_62 rfl (lv_at hl 2 rfl) ?_
                    refine lv_iload hx hb dX1_isLeftForSure_63 (lv_at hl 5 rfl) ?_
                    obtain ⟨v_22, hc_21, h⟩ := bd_at h
                    refine caSI (As := [.int x1, .int x4_5]) (rest := [.int x2]) hC hw hl.1 lm_RX1_79 li_RX2 lk_yX2_lostWith ls_yX2_lostWith 2 rfl hd_X2_lostWith (by omega) (by decide) (Nat.le_of_ble_eq_true rfl) dX1_isLeftForSure_65 (k_X2_lostWith l D cy (wD cy a) S fu x1 x4_5 _ hc_21) (fun H locs hw => ?_)
                    refine lv_iconst (v := -1) hx hb dX1_isLeftForSure_68 (by decide) ?_
                    refine lv_ixor hx hb dX1_isLeftForSure_69 ?_
                    refine lv_iand hx hb dX1_isLeftForSure_70 ?_
                    refine lv_goto (tgt := 75) hx hb dX1_isLeftForSure_71 (by decide) ?_
                    exact hj_16 ((x2 &&& (v_22 ^^^ (-1 : Int32)))) h H locs ls hw (lv_sub hl [1, 2, 3, 4, 5] rfl)
              · intro j_14 hj_14 h
                refine lv_if_eq (tgt := 53) hx hb dX1_isLeftForSure_46 (by decide) (fun c_23 => ?_) (fun c_23 => ?_)
                · have h := if_at_t c_23 h
                  refine lv_iconst (v := 0) hx hb dX1_isLeftForSure_53 (by decide) ?_
                  exact hj_14 (0 : Int32) h H locs ls hw (lv_sub hl [0, 1, 2, 3, 4] rfl)
                · have h := if_at_f c_23 h
                  refine lv_iconst (v := 1) hx hb dX1_isLeftForSure_49 (by decide) ?_
                  refine lv_goto (tgt := 54) hx hb dX1_isLeftForSure_50 (by decide) ?_
                  exact hj_14 (1 : Int32) h H locs ls hw (lv_sub hl [0, 1, 2, 3, 4] rfl)
      · have h := if_at_f c_4 h
        exact hj_1 h H locs ls hw (lv_sub hl [2] rfl)
theorem k_X1_isLeftForSure (l : Launch) (D : va_G) (cy : ClassId) (a : Nat → Nat) (fu : Nat) : ∀ (d : Nat) (x1 : Int32) (x2 : Int32) (x3 : Int32) (S : ST) (r : Int32), m_X1_isLeftForSure fu d x1 x2 x3 S = some r → CtI l yX1_isLeftForSure cX1_isLeftForSure 7 (some .boolean) (d + 1) [.ref (a 13), .int x1, .int x2, .int x3] D cy (wD cy a) S r S
  | 0, _, _, _, _, _, h => by simp [m_X1_isLeftForSure] at h
  | d + 1, x1, x2, x3, S, r, h => by
    have h2 := k_X1_isLeftForSure_B l D cy a fu d (m_X1_isLeftForSure fu d) (k_X1_isLeftForSure l D cy a fu d) x1 x2 x3 S r h
    rw [show d + 1 + 1 = d + 2 from by omega]
    exact h2
def m_X1_fewestSure_L13 (fu : Nat) (x1 : Int32) (x2 : Int32) (x3_1 : Int32) (S : ST) (j_6 : Option Int32) (ag_9 : Int32 → Option Int32) (x4_8 : Int32) : Option Int32 :=
  (if (64 : Int32) ≤ x4_8 then j_6 else bd (m_J6_bitCount_0f7a4 fu x4_8) (fun v_12 => jn0 (nm (x4_8 + (1 : Int32)) (fun x4_14 => ag_9 x4_14)) (fun j_13 => (if v_12 = x3_1 then bd (m_X1_isLeftForSure fu 8 x1 x4_8 x2 S) (fun v_17 => (if v_17 = (0 : Int32) then j_13 else some x4_8)) else j_13))))
def m_X1_fewestSure_L2 (fu : Nat) (x1 : Int32) (x2 : Int32) (S : ST) (ag_2 : Int32 → Option Int32) (x3_1 : Int32) : Option Int32 :=
  bd (m_X2_namesOf fu x1) (fun v_4 => (if v_4 < x3_1 then some (-1 : Int32) else jn0 (nm (x3_1 + (1 : Int32)) (fun x3_7 => ag_2 x3_7)) (fun j_6 => lq1 (m_X1_fewestSure_L13 fu x1 x2 x3_1 S j_6) fu (1 : Int32))))
def m_X1_fewestSure (fu : Nat) (x1 : Int32) (x2 : Int32) (S : ST) : Option Int32 :=
  lq1 (m_X1_fewestSure_L2 fu x1 x2 S) fu (1 : Int32)
set_option maxRecDepth 100000 in
set_option maxHeartbeats 4000000 in
theorem k_X1_fewestSure (l : Launch) (D : va_G) (cy : ClassId) (a : Nat → Nat) (fu : Nat) (x1 : Int32) (x2 : Int32) (S : ST) (r : Int32) (h : m_X1_fewestSure fu x1 x2 S = some r) : CtI l yX1_fewestSure cX1_fewestSure 5 (some .int) 11 [.ref (a 13), .int x1, .int x2] D cy (wD cy a) S r S := by
  refine CtI_of (by decide) (Nat.le_of_ble_eq_true rfl) ?_
  intro p e s m args below meth c A ls hC hr hk hw hl
  have hC : Cx p s m c RX1 cX1_fewestSure 5 args D cy := hC
  have hx := hC.1
  have hb := hC.2.1
  have hl : lv_has ls 5 [(0, .ref (a 13)), (1, .int x1), (2, .int x2)] := hl
  obtain ⟨H, eH⟩ : ∃ z : Heap, z = s.heap := ⟨_, rfl⟩
  obtain ⟨locs, elocs⟩ : ∃ z : List Loc, z = [] := ⟨_, rfl⟩
  have hw : InW D (wD cy a) A s.heap H locs S := by rw [eH, elocs]; exact hw
  suffices hsu : W p l e (rmN 11) s m args below meth c H locs 0 0 (QI below args s D (wD cy a) A r S) (F0 m 0 ls []) by rw [eH, elocs] at hsu; exact hsu
  unfold m_X1_fewestSure at h
  refine lv_iconst (v := 1) hx hb dX1_fewestSure_0 (by decide) ?_
  refine lv_istore_n (lv' := [(3, .int (1 : Int32)), (0, .ref (a 13)), (1, .int x1), (2, .int x2)]) hx hb dX1_fewestSure_1 rfl hl (by decide) rfl (fun ls hl => ?_)
  refine lq1_ok (fun (x3_1 : Int32) => ∀ (H : Heap) (locs : List Loc) (ls : Array Slot), InW D (wD cy a) A s.heap H locs S → lv_has ls 5 [(0, .ref (a 13)), (1, .int x1), (2, .int x2), (3, .int x3_1)] → W p l e (rmN 11) s m args below meth c H locs 0 0 (QI below args s D (wD cy a) A r S) (F0 m 2 ls [])) ?_ fu (1 : Int32) h H locs ls hw (lv_sub hl [1, 2, 3, 0] rfl)
  intro ag_2 hag_2 x3_1 h H locs ls hw hl
  unfold m_X1_fewestSure_L2 at h
  refine lv_iload_n hx hb dX1_fewestSure_2 rfl (lv_at hl 3 rfl) ?_
  refine lv_iload_n hx hb dX1_fewestSure_3 rfl (lv_at hl 1 rfl) ?_
  obtain ⟨v_4, hc_3, h⟩ := bd_at h
  refine caSI (As := [.int x1]) (rest := [.int x3_1]) hC hw hl.1 lm_RX1_61 li_RX2 lk_yX2_namesOf ls_yX2_namesOf 1 rfl hd_X2_namesOf (by decide) (by decide) (Nat.le_of_ble_eq_true rfl) dX1_fewestSure_4 (k_X2_namesOf l D cy (wD cy a) S fu x1 _ hc_3) (fun H locs hw => ?_)
  refine lv_icmp_gt (tgt := 55) hx hb dX1_fewestSure_7 (by decide) (fun c_5 => ?_) (fun c_5 => ?_)
  · have h := if_at_t c_5 h
    refine lv_iconst (v := -1) hx hb dX1_fewestSure_55 (by decide) ?_
    exact rtI hC hr hk hw (so_at h) rfl dX1_fewestSure_56
  · have h := if_at_f c_5 h
    refine lv_iconst (v := 1) hx hb dX1_fewestSure_10 (by decide) ?_
    refine lv_istore (lv' := [(4, .int (1 : Int32)), (0, .ref (a 13)), (1, .int x1), (2, .int x2), (3, .int x3_1)]) hx hb dX1_fewestSure_11 hl (by decide) rfl (fun ls hl => ?_)
    refine jn0_ok (∀ (H : Heap) (locs : List Loc) (ls : Array Slot), InW D (wD cy a) A s.heap H locs S → lv_has ls 5 [(0, .ref (a 13)), (1, .int x1), (2, .int x2), (3, .int x3_1)] → W p l e (rmN 11) s m args below meth c H locs 0 0 (QI below args s D (wD cy a) A r S) (F0 m 49 ls [])) ?_ ?_ h
    · intro h H locs ls hw hl
      obtain ⟨x3_7, ex3_7⟩ : ∃ z : Int32, z = x3_1 + (1 : Int32) := ⟨_, rfl⟩
      have h := nm_at ex3_7 h
      refine lv_iinc (v := x3_7) (lv' := [(3, .int x3_7), (0, .ref (a 13)), (1, .int x1), (2, .int x2)]) hx hb dX1_fewestSure_49 hl (k := 3) rfl (by rw [ex3_7]; rfl) (by decide) rfl (fun ls hl => ?_)
      refine lv_goto (tgt := 2) hx hb dX1_fewestSure_52 (by decide) ?_
      exact hag_2 x3_7 h H locs ls hw (lv_sub hl [1, 2, 3, 0] rfl)
    · intro j_6 hj_6 h
      refine lq1_ok (fun (x4_8 : Int32) => ∀ (H : Heap) (locs : List Loc) (ls : Array Slot), InW D (wD cy a) A s.heap H locs S → lv_has ls 5 [(0, .ref (a 13)), (1, .int x1), (2, .int x2), (3, .int x3_1), (4, .int x4_8)] → W p l e (rmN 11) s m args below meth c H locs 0 0 (QI below args s D (wD cy a) A r S) (F0 m 13 ls [])) ?_ fu (1 : Int32) h H locs ls hw (lv_sub hl [1, 2, 3, 4, 0] rfl)
      intro ag_9 hag_9 x4_8 h H locs ls hw hl
      unfold m_X1_fewestSure_L13 at h
      refine lv_iload hx hb dX1_fewestSure_13 (lv_at hl 4 rfl) ?_
      refine lv_bipush (v := 64) hx hb dX1_fewestSure_15 (by decide) ?_
      refine lv_icmp_ge (tgt := 49) hx hb dX1_fewestSure_17 (by decide) (fun c_10 => ?_) (fun c_10 => ?_)
      · have h := if_at_t c_10 h
        exact hj_6 h H locs ls hw (lv_sub hl [0, 1, 2, 3] rfl)
      · have h := if_at_f c_10 h
        refine lv_iload hx hb dX1_fewestSure_20 (lv_at hl 4 rfl) ?_
        obtain ⟨v_12, hc_11, h⟩ := bd_at h
        refine caSI (As := [.int x4_8]) (rest := []) hC hw hl.1 lm_RX1_66 li_RJ6 lk_yJ6_bitCount_0f7a4 ls_yJ6_bitCount_0f7a4 1 rfl hd_J6_bitCount_0f7a4 (by decide) (by decide) (Nat.le_of_ble_eq_true rfl) dX1_fewestSure_22 (k_J6_bitCount_0f7a4 l D cy (wD cy a) S fu x4_8 _ hc_11) (fun H locs hw => ?_)
        refine lv_iload_n hx hb dX1_fewestSure_25 rfl (lv_at hl 3 rfl) ?_
        refine jn0_ok (∀ (H : Heap) (locs : List Loc) (ls : Array Slot), InW D (wD cy a) A s.heap H locs S → lv_has ls 5 [(0, .ref (a 13)), (1, .int x1), (2, .int x2), (3, .int x3_1), (4, .int x4_8)] → W p l e (rmN 11) s m args below meth c H locs 0 0 (QI below args s D (wD cy a) A r S) (F0 m 43 ls [])) ?_ ?_ h
        · intro h H locs ls hw hl
          obtain ⟨x4_14, ex4_14⟩ : ∃ z : Int32, z = x4_8 + (1 : Int32) := ⟨_, rfl⟩
          have h := nm_at ex4_14 h
          refine lv_iinc (v := x4_14) (lv' := [(4, .int x4_14), (0, .ref (a 13)), (1, .int x1), (2, .int x2), (3, .int x3_1)]) hx hb dX1_fewestSure_43 hl (k := 4) rfl (by rw [ex4_14]; rfl) (by decide) rfl (fun ls hl => ?_)
          refine lv_goto (tgt := 13) hx hb dX1_fewestSure_46 (by decide) ?_
          exact hag_9 x4_14 h H locs ls hw (lv_sub hl [1, 2, 3, 4, 0] rfl)
        · intro j_13 hj_13 h
          refine lv_icmp_ne (tgt := 43) hx hb dX1_fewestSure_26 (by decide) (fun c_15 => ?_) (fun c_15 => ?_)
          · have h := if_at_f c_15 h
            exact hj_13 h H locs ls hw (lv_sub hl [0, 1, 2, 3, 4] rfl)
          · have h := if_at_t c_15 h
            refine lv_aload_n hx hb dX1_fewestSure_29 rfl (lv_at hl 0 rfl) ?_
            refine lv_iload_n hx hb dX1_fewestSure_30 rfl (lv_at hl 1 rfl) ?_
            refine lv_iload hx hb dX1_fewestSure_31 (lv_at hl 4 rfl) ?_
            refine lv_iload_n hx hb dX1_fewestSure_33 rfl (lv_at hl 2 rfl) ?_
            obtain ⟨v_17, hc_16, h⟩ := bd_at h
            refine caVI (As := [.int x1, .int x4_8, .int x2]) (rest := []) hC hw hl.1 lm_RX1_71 li_RX1 lk_yX1_isLeftForSure li_yX1_isLeftForSure ll_yX1_isLeftForSure 13 1 (cD_13 cy a S) rfl 3 rfl hd_X1_isLeftForSure (by decide) (by decide) (Nat.le_of_ble_eq_true rfl) dX1_fewestSure_34 (k_X1_isLeftForSure l D cy a fu 8 x1 x4_8 x2 S _ hc_16) (fun H locs hw => ?_)
            refine lv_if_eq (tgt := 43) hx hb dX1_fewestSure_37 (by decide) (fun c_18 => ?_) (fun c_18 => ?_)
            · have h := if_at_t c_18 h
              exact hj_13 h H locs ls hw (lv_sub hl [0, 1, 2, 3, 4] rfl)
            · have h := if_at_f c_18 h
              refine lv_iload hx hb dX1_fewestSure_40 (lv_at hl 4 rfl) ?_
              exact rtI hC hr hk hw (so_at h) rfl dX1_fewestSure_42
def m_X1_fewestRenamings_L4 (fu : Nat) (x1 : Int32) (S : ST) (j_2 : Int32 → Option Int32) (ag_12 : Int32 → Int32 → Option Int32) (x2_10 : Int32) (x3_11 : Int32) : Option Int32 :=
  (if (6 : Int32) ≤ x3_11 then j_2 x2_10 else bd (m_X5_fullness fu ((stL S 0)) x3_11) (fun v_15 => nm ((x2_10 + (if (0 : Int32) < (v_15 - x1) then (v_15 - x1) else (0 : Int32)))) (fun x2_16 => nm (x3_11 + (1 : Int32)) (fun x3_17 => ag_12 x2_16 x3_17))))
def m_X1_fewestRenamings (fu : Nat) (x1 : Int32) (S : ST) : Option Int32 :=
  jn1 (fun (x2_1 : Int32) => bd (m_X5_allLeaves fu ((stL S 0))) (fun v_4 => jn1 (fun (v_5 : Int32) => (if v_5 = (0 : Int32) then some (-1 : Int32) else (if (3 : Int32) < x2_1 then some (-1 : Int32) else some x2_1))) (fun j_6 => (if ((6 : Int32) * x1) < v_4 then j_6 (0 : Int32) else j_6 (1 : Int32))))) (fun j_2 => lq2 (m_X1_fewestRenamings_L4 fu x1 S j_2) fu (0 : Int32) (0 : Int32))
set_option maxRecDepth 100000 in
set_option maxHeartbeats 4000000 in
theorem k_X1_fewestRenamings (l : Launch) (D : va_G) (cy : ClassId) (a : Nat → Nat) (fu : Nat) (x1 : Int32) (S : ST) (r : Int32) (h : m_X1_fewestRenamings fu x1 S = some r) : CtI l yX1_fewestRenamings cX1_fewestRenamings 4 (some .int) 2 [.ref (a 13), .int x1] D cy (wD cy a) S r S := by
  refine CtI_of (by decide) (Nat.le_of_ble_eq_true rfl) ?_
  intro p e s m args below meth c A ls hC hr hk hw hl
  have hC : Cx p s m c RX1 cX1_fewestRenamings 4 args D cy := hC
  have hx := hC.1
  have hb := hC.2.1
  have hl : lv_has ls 4 [(0, .ref (a 13)), (1, .int x1)] := hl
  obtain ⟨H, eH⟩ : ∃ z : Heap, z = s.heap := ⟨_, rfl⟩
  obtain ⟨locs, elocs⟩ : ∃ z : List Loc, z = [] := ⟨_, rfl⟩
  have hw : InW D (wD cy a) A s.heap H locs S := by rw [eH, elocs]; exact hw
  suffices hsu : W p l e (rmN 2) s m args below meth c H locs 0 0 (QI below args s D (wD cy a) A r S) (F0 m 0 ls []) by rw [eH, elocs] at hsu; exact hsu
  unfold m_X1_fewestRenamings at h
  refine lv_iconst (v := 0) hx hb dX1_fewestRenamings_0 (by decide) ?_
  refine lv_istore_n (lv' := [(2, .int (0 : Int32)), (0, .ref (a 13)), (1, .int x1)]) hx hb dX1_fewestRenamings_1 rfl hl (by decide) rfl (fun ls hl => ?_)
  refine lv_iconst (v := 0) hx hb dX1_fewestRenamings_2 (by decide) ?_
  refine lv_istore_n (lv' := [(3, .int (0 : Int32)), (2, .int (0 : Int32)), (0, .ref (a 13)), (1, .int x1)]) hx hb dX1_fewestRenamings_3 rfl hl (by decide) rfl (fun ls hl => ?_)
  refine jn1_ok (fun (x2_1 : Int32) => ∀ (H : Heap) (locs : List Loc) (ls : Array Slot), InW D (wD cy a) A s.heap H locs S → lv_has ls 4 [(0, .ref (a 13)), (1, .int x1), (2, .int x2_1)] → W p l e (rmN 2) s m args below meth c H locs 0 0 (QI below args s D (wD cy a) A r S) (F0 m 36 ls [])) ?_ ?_ h
  · intro x2_1 h H locs ls hw hl
    refine lv_aload_n hx hb dX1_fewestRenamings_36 rfl (lv_at hl 0 rfl) ?_
    refine gf (v := .ref (a 5)) hC hw in_X1 13 1 1 (cD_13 cy a S) rfl (by decide) lf_RX1_15 rfl rfl dX1_fewestRenamings_37 ?_
    refine gfN (v := .long (stL S 0)) hC hw in_X0 5 0 5 (cD_5 cy a S) rfl (by decide) lf_RX1_49 rfl rfl dX1_fewestRenamings_40 ?_
    obtain ⟨v_4, hc_3, h⟩ := bd_at h
    refine caSI (As := [.long (stL S 0)]) (rest := []) hC hw hl.1 lm_RX1_88 li_RX5 lk_yX5_allLeaves ls_yX5_allLeaves 1 rfl hd_X5_allLeaves (by decide) (by decide) (Nat.le_of_ble_eq_true rfl) dX1_fewestRenamings_43 (k_X5_allLeaves l D cy (wD cy a) S fu ((stL S 0)) _ hc_3) (fun H locs hw => ?_)
    refine lv_bipush (v := 6) hx hb dX1_fewestRenamings_46 (by decide) ?_
    refine lv_iload_n hx hb dX1_fewestRenamings_48 rfl (lv_at hl 1 rfl) ?_
    refine lv_imul hx hb dX1_fewestRenamings_49 ?_
    refine jn1_ok (fun (v_5 : Int32) => ∀ (H : Heap) (locs : List Loc) (ls : Array Slot), InW D (wD cy a) A s.heap H locs S → lv_has ls 4 [(2, .int x2_1)] → W p l e (rmN 2) s m args below meth c H locs 0 0 (QI below args s D (wD cy a) A r S) (F0 m 58 ls [.int v_5])) ?_ ?_ h
    · intro v_5 h H locs ls hw hl
      refine lv_istore_n (lv' := [(3, .int v_5), (2, .int x2_1)]) hx hb dX1_fewestRenamings_58 rfl hl (by decide) rfl (fun ls hl => ?_)
      refine lv_iload_n hx hb dX1_fewestRenamings_59 rfl (lv_at hl 0 rfl) ?_
      refine lv_if_eq (tgt := 72) hx hb dX1_fewestRenamings_60 (by decide) (fun c_7 => ?_) (fun c_7 => ?_)
      · have h := if_at_t c_7 h
        refine lv_iconst (v := -1) hx hb dX1_fewestRenamings_72 (by decide) ?_
        exact rtI hC hr hk hw (so_at h) rfl dX1_fewestRenamings_73
      · have h := if_at_f c_7 h
        refine lv_iload_n hx hb dX1_fewestRenamings_63 rfl (lv_at hl 1 rfl) ?_
        refine lv_iconst (v := 3) hx hb dX1_fewestRenamings_64 (by decide) ?_
        refine lv_icmp_gt (tgt := 72) hx hb dX1_fewestRenamings_65 (by decide) (fun c_8 => ?_) (fun c_8 => ?_)
        · have h := if_at_t c_8 h
          refine lv_iconst (v := -1) hx hb dX1_fewestRenamings_72 (by decide) ?_
          exact rtI hC hr hk hw (so_at h) rfl dX1_fewestRenamings_73
        · have h := if_at_f c_8 h
          refine lv_iload_n hx hb dX1_fewestRenamings_68 rfl (lv_at hl 1 rfl) ?_
          refine lv_goto (tgt := 73) hx hb dX1_fewestRenamings_69 (by decide) ?_
          exact rtI hC hr hk hw (so_at h) rfl dX1_fewestRenamings_73
    · intro j_6 hj_6 h
      refine lv_icmp_gt (tgt := 57) hx hb dX1_fewestRenamings_50 (by decide) (fun c_9 => ?_) (fun c_9 => ?_)
      · have h := if_at_t c_9 h
        refine lv_iconst (v := 0) hx hb dX1_fewestRenamings_57 (by decide) ?_
        exact hj_6 (0 : Int32) h H locs ls hw (lv_sub hl [2] rfl)
      · have h := if_at_f c_9 h
        refine lv_iconst (v := 1) hx hb dX1_fewestRenamings_53 (by decide) ?_
        refine lv_goto (tgt := 58) hx hb dX1_fewestRenamings_54 (by decide) ?_
        exact hj_6 (1 : Int32) h H locs ls hw (lv_sub hl [2] rfl)
  · intro j_2 hj_2 h
    refine lq2_ok (fun (x2_10 : Int32) (x3_11 : Int32) => ∀ (H : Heap) (locs : List Loc) (ls : Array Slot), InW D (wD cy a) A s.heap H locs S → lv_has ls 4 [(0, .ref (a 13)), (1, .int x1), (2, .int x2_10), (3, .int x3_11)] → W p l e (rmN 2) s m args below meth c H locs 0 0 (QI below args s D (wD cy a) A r S) (F0 m 4 ls [])) ?_ fu (0 : Int32) (0 : Int32) h H locs ls hw (lv_sub hl [2, 3, 1, 0] rfl)
    intro ag_12 hag_12 x2_10 x3_11 h H locs ls hw hl
    unfold m_X1_fewestRenamings_L4 at h
    refine lv_iload_n hx hb dX1_fewestRenamings_4 rfl (lv_at hl 3 rfl) ?_
    refine lv_bipush (v := 6) hx hb dX1_fewestRenamings_5 (by decide) ?_
    refine lv_icmp_ge (tgt := 36) hx hb dX1_fewestRenamings_7 (by decide) (fun c_13 => ?_) (fun c_13 => ?_)
    · have h := if_at_t c_13 h
      exact hj_2 x2_10 h H locs ls hw (lv_sub hl [0, 1, 2] rfl)
    · have h := if_at_f c_13 h
      refine lv_iload_n hx hb dX1_fewestRenamings_10 rfl (lv_at hl 2 rfl) ?_
      refine lv_iconst (v := 0) hx hb dX1_fewestRenamings_11 (by decide) ?_
      refine lv_aload_n hx hb dX1_fewestRenamings_12 rfl (lv_at hl 0 rfl) ?_
      refine gf (v := .ref (a 5)) hC hw in_X1 13 1 1 (cD_13 cy a S) rfl (by decide) lf_RX1_15 rfl rfl dX1_fewestRenamings_13 ?_
      refine gfN (v := .long (stL S 0)) hC hw in_X0 5 0 5 (cD_5 cy a S) rfl (by decide) lf_RX1_49 rfl rfl dX1_fewestRenamings_16 ?_
      refine lv_iload_n hx hb dX1_fewestRenamings_19 rfl (lv_at hl 3 rfl) ?_
      obtain ⟨v_15, hc_14, h⟩ := bd_at h
      refine caSI (As := [.long (stL S 0), .int x3_11]) (rest := [.int (0 : Int32), .int x2_10]) hC hw hl.1 lm_RX1_31 li_RX5 lk_yX5_fullness ls_yX5_fullness 2 rfl hd_X5_fullness (by decide) (by decide) (Nat.le_of_ble_eq_true rfl) dX1_fewestRenamings_20 (k_X5_fullness l D cy (wD cy a) S fu ((stL S 0)) x3_11 _ hc_14) (fun H locs hw => ?_)
      refine lv_iload_n hx hb dX1_fewestRenamings_23 rfl (lv_at hl 1 rfl) ?_
      refine lv_isub hx hb dX1_fewestRenamings_24 ?_
      refine mmx (rest := [.int x2_10]) hC hl.1 lm_RX1_83 ls_yJ9_max_7cf53 (by decide) (Nat.le_of_ble_eq_true rfl) dX1_fewestRenamings_25 ?_
      refine lv_iadd hx hb dX1_fewestRenamings_28 ?_
      refine lv_topi (fun x2_16 ex2_16 => ?_)
      have h := nm_at ex2_16 h
      refine lv_istore_n (lv' := [(2, .int x2_16), (0, .ref (a 13)), (1, .int x1), (3, .int x3_11)]) hx hb dX1_fewestRenamings_29 rfl hl (by decide) rfl (fun ls hl => ?_)
      obtain ⟨x3_17, ex3_17⟩ : ∃ z : Int32, z = x3_11 + (1 : Int32) := ⟨_, rfl⟩
      have h := nm_at ex3_17 h
      refine lv_iinc (v := x3_17) (lv' := [(3, .int x3_17), (2, .int x2_16), (0, .ref (a 13)), (1, .int x1)]) hx hb dX1_fewestRenamings_30 hl (k := 3) rfl (by rw [ex3_17]; rfl) (by decide) rfl (fun ls hl => ?_)
      refine lv_goto (tgt := 4) hx hb dX1_fewestRenamings_33 (by decide) ?_
      exact hag_12 x2_16 x3_17 h H locs ls hw (lv_sub hl [2, 3, 1, 0] rfl)
def m_X1_nothingToldFrom_L2 (fu : Nat) (S : ST) (ag_2 : Int32 → Option Int32) (x2_1 : Int32) : Option Int32 :=
  (if (stI S 8) ≤ x2_1 then some (1 : Int32) else bd (m_X0_toldOf fu x2_1 S) (fun v_5 => (if v_5 = (-1 : Int32) then nm (x2_1 + (1 : Int32)) (fun x2_7 => ag_2 x2_7) else some (0 : Int32))))
def m_X1_nothingToldFrom (fu : Nat) (x1 : Int32) (S : ST) : Option Int32 :=
  lq1 (m_X1_nothingToldFrom_L2 fu S) fu x1
set_option maxRecDepth 100000 in
set_option maxHeartbeats 4000000 in
theorem k_X1_nothingToldFrom (l : Launch) (D : va_G) (cy : ClassId) (a : Nat → Nat) (fu : Nat) (x1 : Int32) (S : ST) (r : Int32) (h : m_X1_nothingToldFrom fu x1 S = some r) : CtI l yX1_nothingToldFrom cX1_nothingToldFrom 3 (some .boolean) 1 [.ref (a 13), .int x1] D cy (wD cy a) S r S := by
  refine CtI_of (by decide) (Nat.le_of_ble_eq_true rfl) ?_
  intro p e s m args below meth c A ls hC hr hk hw hl
  have hC : Cx p s m c RX1 cX1_nothingToldFrom 3 args D cy := hC
  have hx := hC.1
  have hb := hC.2.1
  have hl : lv_has ls 3 [(0, .ref (a 13)), (1, .int x1)] := hl
  obtain ⟨H, eH⟩ : ∃ z : Heap, z = s.heap := ⟨_, rfl⟩
  obtain ⟨locs, elocs⟩ : ∃ z : List Loc, z = [] := ⟨_, rfl⟩
  have hw : InW D (wD cy a) A s.heap H locs S := by rw [eH, elocs]; exact hw
  suffices hsu : W p l e (rmN 1) s m args below meth c H locs 0 0 (QI below args s D (wD cy a) A r S) (F0 m 0 ls []) by rw [eH, elocs] at hsu; exact hsu
  unfold m_X1_nothingToldFrom at h
  refine lv_iload_n hx hb dX1_nothingToldFrom_0 rfl (lv_at hl 1 rfl) ?_
  refine lv_istore_n (lv' := [(2, .int x1), (0, .ref (a 13)), (1, .int x1)]) hx hb dX1_nothingToldFrom_1 rfl hl (by decide) rfl (fun ls hl => ?_)
  refine lq1_ok (fun (x2_1 : Int32) => ∀ (H : Heap) (locs : List Loc) (ls : Array Slot), InW D (wD cy a) A s.heap H locs S → lv_has ls 3 [(0, .ref (a 13)), (2, .int x2_1)] → W p l e (rmN 1) s m args below meth c H locs 0 0 (QI below args s D (wD cy a) A r S) (F0 m 2 ls [])) ?_ fu x1 h H locs ls hw (lv_sub hl [1, 0] rfl)
  intro ag_2 hag_2 x2_1 h H locs ls hw hl
  unfold m_X1_nothingToldFrom_L2 at h
  refine lv_iload_n hx hb dX1_nothingToldFrom_2 rfl (lv_at hl 1 rfl) ?_
  refine lv_aload_n hx hb dX1_nothingToldFrom_3 rfl (lv_at hl 0 rfl) ?_
  refine gf (v := .ref (a 5)) hC hw in_X1 13 1 1 (cD_13 cy a S) rfl (by decide) lf_RX1_15 rfl rfl dX1_nothingToldFrom_4 ?_
  refine gfN (v := .int (stI S 8)) hC hw in_X0 5 0 7 (cD_5 cy a S) rfl (by decide) lf_RX1_99 rfl rfl dX1_nothingToldFrom_7 ?_
  refine lv_icmp_ge (tgt := 33) hx hb dX1_nothingToldFrom_10 (by decide) (fun c_3 => ?_) (fun c_3 => ?_)
  · have h := if_at_t c_3 h
    refine lv_iconst (v := 1) hx hb dX1_nothingToldFrom_33 (by decide) ?_
    exact rtZ hC hr hk hw rfl (so_at h) rfl dX1_nothingToldFrom_34
  · have h := if_at_f c_3 h
    refine lv_aload_n hx hb dX1_nothingToldFrom_13 rfl (lv_at hl 0 rfl) ?_
    refine gf (v := .ref (a 5)) hC hw in_X1 13 1 1 (cD_13 cy a S) rfl (by decide) lf_RX1_15 rfl rfl dX1_nothingToldFrom_14 ?_
    refine lv_iload_n hx hb dX1_nothingToldFrom_17 rfl (lv_at hl 1 rfl) ?_
    obtain ⟨v_5, hc_4, h⟩ := bd_at h
    refine caVI (As := [.int x2_1]) (rest := []) hC hw hl.1 lm_RX1_113 li_RX0 lk_yX0_toldOf li_yX0_toldOf ll_yX0_toldOf 5 0 (cD_5 cy a S) rfl 1 rfl hd_X0_toldOf (by decide) (by decide) (Nat.le_of_ble_eq_true rfl) dX1_nothingToldFrom_18 (k_X0_toldOf l D cy a fu x2_1 S _ hc_4) (fun H locs hw => ?_)
    refine lv_iconst (v := -1) hx hb dX1_nothingToldFrom_21 (by decide) ?_
    refine lv_icmp_eq (tgt := 27) hx hb dX1_nothingToldFrom_22 (by decide) (fun c_6 => ?_) (fun c_6 => ?_)
    · have h := if_at_t c_6 h
      obtain ⟨x2_7, ex2_7⟩ : ∃ z : Int32, z = x2_1 + (1 : Int32) := ⟨_, rfl⟩
      have h := nm_at ex2_7 h
      refine lv_iinc (v := x2_7) (lv' := [(2, .int x2_7), (0, .ref (a 13))]) hx hb dX1_nothingToldFrom_27 hl (k := 1) rfl (by rw [ex2_7]; rfl) (by decide) rfl (fun ls hl => ?_)
      refine lv_goto (tgt := 2) hx hb dX1_nothingToldFrom_30 (by decide) ?_
      exact hag_2 x2_7 h H locs ls hw (lv_sub hl [1, 0] rfl)
    · have h := if_at_f c_6 h
      refine lv_iconst (v := 0) hx hb dX1_nothingToldFrom_25 (by decide) ?_
      exact rtZ hC hr hk hw rfl (so_at h) rfl dX1_nothingToldFrom_26
def m_X1_isAsTold (fu : Nat) (x1 : Int64) (x3 : Int32) (S : ST) : Option Int32 :=
  bd (m_X0_toldOf fu x3 S) (fun v_2 => (if v_2 = (-1 : Int32) then some (1 : Int32) else bd (m_X5_living fu x1) (fun v_5 => (if v_2 = v_5 then some (1 : Int32) else some (0 : Int32)))))
set_option maxRecDepth 100000 in
set_option maxHeartbeats 4000000 in
theorem k_X1_isAsTold (l : Launch) (D : va_G) (cy : ClassId) (a : Nat → Nat) (fu : Nat) (x1 : Int64) (x3 : Int32) (S : ST) (r : Int32) (h : m_X1_isAsTold fu x1 x3 S = some r) : CtI l yX1_isAsTold cX1_isAsTold 5 (some .boolean) 3 [.ref (a 13), .long x1, .int x3] D cy (wD cy a) S r S := by
  refine CtI_of (by decide) (Nat.le_of_ble_eq_true rfl) ?_
  intro p e s m args below meth c A ls hC hr hk hw hl
  have hC : Cx p s m c RX1 cX1_isAsTold 5 args D cy := hC
  have hx := hC.1
  have hb := hC.2.1
  have hl : lv_has ls 5 [(0, .ref (a 13)), (1, .long x1), (3, .int x3)] := hl
  obtain ⟨H, eH⟩ : ∃ z : Heap, z = s.heap := ⟨_, rfl⟩
  obtain ⟨locs, elocs⟩ : ∃ z : List Loc, z = [] := ⟨_, rfl⟩
  have hw : InW D (wD cy a) A s.heap H locs S := by rw [eH, elocs]; exact hw
  suffices hsu : W p l e (rmN 3) s m args below meth c H locs 0 0 (QI below args s D (wD cy a) A r S) (F0 m 0 ls []) by rw [eH, elocs] at hsu; exact hsu
  unfold m_X1_isAsTold at h
  refine lv_aload_n hx hb dX1_isAsTold_0 rfl (lv_at hl 0 rfl) ?_
  refine gf (v := .ref (a 5)) hC hw in_X1 13 1 1 (cD_13 cy a S) rfl (by decide) lf_RX1_15 rfl rfl dX1_isAsTold_1 ?_
  refine lv_iload_n hx hb dX1_isAsTold_4 rfl (lv_at hl 2 rfl) ?_
  obtain ⟨v_2, hc_1, h⟩ := bd_at h
  refine caVI (As := [.int x3]) (rest := []) hC hw hl.1 lm_RX1_113 li_RX0 lk_yX0_toldOf li_yX0_toldOf ll_yX0_toldOf 5 0 (cD_5 cy a S) rfl 1 rfl hd_X0_toldOf (by decide) (by decide) (Nat.le_of_ble_eq_true rfl) dX1_isAsTold_5 (k_X0_toldOf l D cy a fu x3 S _ hc_1) (fun H locs hw => ?_)
  refine lv_istore (lv' := [(4, .int v_2), (0, .ref (a 13)), (1, .long x1), (3, .int x3)]) hx hb dX1_isAsTold_8 hl (by decide) rfl (fun ls hl => ?_)
  refine lv_iload hx hb dX1_isAsTold_10 (lv_at hl 0 rfl) ?_
  refine lv_iconst (v := -1) hx hb dX1_isAsTold_12 (by decide) ?_
  refine lv_icmp_eq (tgt := 25) hx hb dX1_isAsTold_13 (by decide) (fun c_3 => ?_) (fun c_3 => ?_)
  · have h := if_at_t c_3 h
    refine lv_iconst (v := 1) hx hb dX1_isAsTold_25 (by decide) ?_
    refine lv_goto (tgt := 30) hx hb dX1_isAsTold_26 (by decide) ?_
    exact rtZ hC hr hk hw rfl (so_at h) rfl dX1_isAsTold_30
  · have h := if_at_f c_3 h
    refine lv_iload hx hb dX1_isAsTold_16 (lv_at hl 0 rfl) ?_
    refine lv_lload_n hx hb dX1_isAsTold_18 rfl (lv_at hl 2 rfl) ?_
    obtain ⟨v_5, hc_4, h⟩ := bd_at h
    refine caSI (As := [.long x1]) (rest := [.int v_2]) hC hw hl.1 lm_RX1_116 li_RX5 lk_yX5_living ls_yX5_living 1 rfl hd_X5_living (by decide) (by decide) (Nat.le_of_ble_eq_true rfl) dX1_isAsTold_19 (k_X5_living l D cy (wD cy a) S fu x1 _ hc_4) (fun H locs hw => ?_)
    refine lv_icmp_ne (tgt := 29) hx hb dX1_isAsTold_22 (by decide) (fun c_6 => ?_) (fun c_6 => ?_)
    · have h := if_at_f c_6 h
      refine lv_iconst (v := 0) hx hb dX1_isAsTold_29 (by decide) ?_
      exact rtZ hC hr hk hw rfl (so_at h) rfl dX1_isAsTold_30
    · have h := if_at_t c_6 h
      refine lv_iconst (v := 1) hx hb dX1_isAsTold_25 (by decide) ?_
      refine lv_goto (tgt := 30) hx hb dX1_isAsTold_26 (by decide) ?_
      exact rtZ hC hr hk hw rfl (so_at h) rfl dX1_isAsTold_30
def m_X1_rowsFrom_L112 (fu : Nat) (rec : Int64 → Int32 → Int32 → Int32 → ST → Option Int32) (x1 : Int64) (x3 : Int32) (x4 : Int32) (x5 : Int32) (S : ST) (j_7 : Int32 → Int32 → Option Int32) (ag_17 : Int32 → Int32 → Int32 → Option Int32) (x6_14 : Int32) (x7_15 : Int32) (x8_16 : Int32) : Option Int32 :=
  (if (6 : Int32) ≤ x8_16 then j_7 x6_14 x7_15 else bd (m_X3_mayBurn fu x8_16 S) (fun v_20 => jn2 (fun (x6_21 : Int32) (x7_22 : Int32) => nm (x8_16 + (1 : Int32)) (fun x8_24 => ag_17 x6_21 x7_22 x8_24)) (fun j_23 => (if v_20 = (0 : Int32) then j_23 x6_14 x7_15 else bd (m_X5_fullness fu x1 x8_16) (fun v_27 => (if v_27 = (0 : Int32) then nm (x7_15 + (1 : Int32)) (fun x7_36 => j_23 x6_14 x7_36) else bd (m_X0_burntDown fu x1 x8_16 S) (fun v_30 => bd (m_X0_rumoursGrown fu v_30 S) (fun v_32 => bd (rec v_32 ((x3 + (1 : Int32))) x4 x5 S) (fun v_34 => nm ((x6_14 + v_34)) (fun x6_35 => j_23 x6_35 x7_15))))))))))
def m_X1_rowsFrom_B (fu : Nat) (rec : Int64 → Int32 → Int32 → Int32 → ST → Option Int32) (x1 : Int64) (x3 : Int32) (x4 : Int32) (x5 : Int32) (S : ST) : Option Int32 :=
  jn0 ((if x3 < (stI S 8) then jn0 ((if x3 = x4 then bd (m_X0_burntDown fu x1 x5 S) (fun v_38 => bd (m_X0_rumoursGrown fu v_38 S) (fun v_40 => bd (rec v_40 ((x3 + (1 : Int32))) x4 x5 S) (fun v_42 => some v_42))) else jn2 (fun (x6_5 : Int32) (x7_6 : Int32) => (if x7_6 ≤ (0 : Int32) then some x6_5 else bd (m_X0_rumoursGrown fu x1 S) (fun v_10 => bd (rec v_10 ((x3 + (1 : Int32))) x4 x5 S) (fun v_12 => nm ((x6_5 + (x7_6 * v_12))) (fun x6_13 => some x6_13))))) (fun j_7 => lq3 (m_X1_rowsFrom_L112 fu rec x1 x3 x4 x5 S j_7) fu (0 : Int32) (0 : Int32) (0 : Int32)))) (fun j_3 => (if x3 ≤ x4 then j_3 else bd (m_X1_nothingToldFrom fu x3 S) (fun v_45 => (if v_45 = (0 : Int32) then j_3 else bd (m_X3_lettersThatMayBurn fu S) (fun v_48 => bd (m_X6_power fu v_48 (((stI S 8) - x3))) (fun v_50 => some v_50)))))) else some (1 : Int32))) (fun j_1 => (if x3 ≤ (0 : Int32) then j_1 else bd (m_X1_isAsTold fu x1 ((x3 - (1 : Int32))) S) (fun v_53 => (if v_53 = (0 : Int32) then some (0 : Int32) else j_1))))
def m_X1_rowsFrom (fu : Nat) : Nat → Int64 → Int32 → Int32 → Int32 → ST → Option Int32
  | 0 => fun _ _ _ _ _ => none
  | d + 1 => m_X1_rowsFrom_B fu (m_X1_rowsFrom fu d)
set_option maxRecDepth 100000 in
set_option maxHeartbeats 4000000 in
theorem k_X1_rowsFrom_B (l : Launch) (D : va_G) (cy : ClassId) (a : Nat → Nat) (fu lv : Nat) (rec : Int64 → Int32 → Int32 → Int32 → ST → Option Int32) (hrec : ∀ (x1 : Int64) (x3 : Int32) (x4 : Int32) (x5 : Int32) (S : ST) (r : Int32), rec x1 x3 x4 x5 S = some r → CtI l yX1_rowsFrom cX1_rowsFrom 11 (some .int) (lv + 3) [.ref (a 13), .long x1, .int x3, .int x4, .int x5] D cy (wD cy a) S r S) (x1 : Int64) (x3 : Int32) (x4 : Int32) (x5 : Int32) (S : ST) (r : Int32) (h : m_X1_rowsFrom_B fu rec x1 x3 x4 x5 S = some r) : CtI l yX1_rowsFrom cX1_rowsFrom 11 (some .int) (lv + 4) [.ref (a 13), .long x1, .int x3, .int x4, .int x5] D cy (wD cy a) S r S := by
  refine CtI_of (by decide) (Nat.le_of_ble_eq_true rfl) ?_
  intro p e s m args below meth c A ls hC hr hk hw hl
  have hC : Cx p s m c RX1 cX1_rowsFrom 11 args D cy := hC
  have hx := hC.1
  have hb := hC.2.1
  have hl : lv_has ls 11 [(0, .ref (a 13)), (1, .long x1), (3, .int x3), (4, .int x4), (5, .int x5)] := hl
  obtain ⟨H, eH⟩ : ∃ z : Heap, z = s.heap := ⟨_, rfl⟩
  obtain ⟨locs, elocs⟩ : ∃ z : List Loc, z = [] := ⟨_, rfl⟩
  have hw : InW D (wD cy a) A s.heap H locs S := by rw [eH, elocs]; exact hw
  suffices hsu : W p l e (rmN (lv + 4)) s m args below meth c H locs 0 0 (QI below args s D (wD cy a) A r S) (F0 m 0 ls []) by rw [eH, elocs] at hsu; exact hsu
  unfold m_X1_rowsFrom_B at h
  refine lv_iload_n hx hb dX1_rowsFrom_0 rfl (lv_at hl 2 rfl) ?_
  refine jn0_ok (∀ (H : Heap) (locs : List Loc) (ls : Array Slot), InW D (wD cy a) A s.heap H locs S → lv_has ls 11 [(0, .ref (a 13)), (1, .long x1), (3, .int x3), (4, .int x4), (5, .int x5)] → W p l e (rmN (lv + 4)) s m args below meth c H locs 0 0 (QI below args s D (wD cy a) A r S) (F0 m 17 ls [])) ?_ ?_ h
  · intro h H locs ls hw hl
    refine lv_iload_n hx hb dX1_rowsFrom_17 rfl (lv_at hl 2 rfl) ?_
    refine lv_aload_n hx hb dX1_rowsFrom_18 rfl (lv_at hl 0 rfl) ?_
    refine gf (v := .ref (a 5)) hC hw in_X1 13 1 1 (cD_13 cy a S) rfl (by decide) lf_RX1_15 rfl rfl dX1_rowsFrom_19 ?_
    refine gfN (v := .int (stI S 8)) hC hw in_X0 5 0 7 (cD_5 cy a S) rfl (by decide) lf_RX1_99 rfl rfl dX1_rowsFrom_22 ?_
    refine lv_icmp_lt (tgt := 30) hx hb dX1_rowsFrom_25 (by decide) (fun c_2 => ?_) (fun c_2 => ?_)
    · have h := if_at_t c_2 h
      refine lv_iload_n hx hb dX1_rowsFrom_30 rfl (lv_at hl 2 rfl) ?_
      refine lv_iload hx hb dX1_rowsFrom_31 (lv_at hl 3 rfl) ?_
      refine jn0_ok (∀ (H : Heap) (locs : List Loc) (ls : Array Slot), InW D (wD cy a) A s.heap H locs S → lv_has ls 11 [(0, .ref (a 13)), (1, .long x1), (3, .int x3), (4, .int x4), (5, .int x5)] → W p l e (rmN (lv + 4)) s m args below meth c H locs 0 0 (QI below args s D (wD cy a) A r S) (F0 m 64 ls [])) ?_ ?_ h
      · intro h H locs ls hw hl
        refine lv_iload_n hx hb dX1_rowsFrom_64 rfl (lv_at hl 2 rfl) ?_
        refine lv_iload hx hb dX1_rowsFrom_65 (lv_at hl 3 rfl) ?_
        refine lv_icmp_ne (tgt := 103) hx hb dX1_rowsFrom_67 (by decide) (fun c_4 => ?_) (fun c_4 => ?_)
        · have h := if_at_f c_4 h
          refine lv_iconst (v := 0) hx hb dX1_rowsFrom_103 (by decide) ?_
          refine lv_istore (lv' := [(6, .int (0 : Int32)), (0, .ref (a 13)), (1, .long x1), (3, .int x3), (4, .int x4), (5, .int x5)]) hx hb dX1_rowsFrom_104 hl (by decide) rfl (fun ls hl => ?_)
          refine lv_iconst (v := 0) hx hb dX1_rowsFrom_106 (by decide) ?_
          refine lv_istore (lv' := [(7, .int (0 : Int32)), (6, .int (0 : Int32)), (0, .ref (a 13)), (1, .long x1), (3, .int x3), (4, .int x4), (5, .int x5)]) hx hb dX1_rowsFrom_107 hl (by decide) rfl (fun ls hl => ?_)
          refine lv_iconst (v := 0) hx hb dX1_rowsFrom_109 (by decide) ?_
          refine lv_istore (lv' := [(8, .int (0 : Int32)), (7, .int (0 : Int32)), (6, .int (0 : Int32)), (0, .ref (a 13)), (1, .long x1), (3, .int x3), (4, .int x4), (5, .int x5)]) hx hb dX1_rowsFrom_110 hl (by decide) rfl (fun ls hl => ?_)
          refine jn2_ok (fun (x6_5 : Int32) (x7_6 : Int32) => ∀ (H : Heap) (locs : List Loc) (ls : Array Slot), InW D (wD cy a) A s.heap H locs S → lv_has ls 11 [(0, .ref (a 13)), (1, .long x1), (3, .int x3), (4, .int x4), (5, .int x5), (6, .int x6_5), (7, .int x7_6)] → W p l e (rmN (lv + 4)) s m args below meth c H locs 0 0 (QI below args s D (wD cy a) A r S) (F0 m 192 ls [])) ?_ ?_ h
          · intro x6_5 x7_6 h H locs ls hw hl
            refine lv_iload hx hb dX1_rowsFrom_192 (lv_at hl 6 rfl) ?_
            refine lv_if_le (tgt := 224) hx hb dX1_rowsFrom_194 (by decide) (fun c_8 => ?_) (fun c_8 => ?_)
            · have h := if_at_t c_8 h
              refine lv_iload hx hb dX1_rowsFrom_224 (lv_at hl 5 rfl) ?_
              exact rtI hC hr hk hw (so_at h) rfl dX1_rowsFrom_226
            · have h := if_at_f c_8 h
              refine lv_iload hx hb dX1_rowsFrom_197 (lv_at hl 5 rfl) ?_
              refine lv_iload hx hb dX1_rowsFrom_199 (lv_at hl 6 rfl) ?_
              refine lv_aload_n hx hb dX1_rowsFrom_201 rfl (lv_at hl 0 rfl) ?_
              refine lv_aload_n hx hb dX1_rowsFrom_202 rfl (lv_at hl 0 rfl) ?_
              refine gf (v := .ref (a 5)) hC hw in_X1 13 1 1 (cD_13 cy a S) rfl (by decide) lf_RX1_15 rfl rfl dX1_rowsFrom_203 ?_
              refine lv_lload_n hx hb dX1_rowsFrom_206 rfl (lv_at hl 1 rfl) ?_
              obtain ⟨v_10, hc_9, h⟩ := bd_at h
              refine caVL (As := [.long x1]) (rest := [.ref (a 13), .int x7_6, .int x6_5]) hC hw hl.1 lm_RX1_41 li_RX0 lk_yX0_rumoursGrown li_yX0_rumoursGrown ll_yX0_rumoursGrown 5 0 (cD_5 cy a S) rfl 1 rfl hd_X0_rumoursGrown (by omega) (by decide) (Nat.le_of_ble_eq_true rfl) dX1_rowsFrom_207 (k_X0_rumoursGrown l D cy a fu x1 S _ hc_9) (fun H locs hw => ?_)
              refine lv_iload_n hx hb dX1_rowsFrom_210 rfl (lv_at hl 2 rfl) ?_
              refine lv_iconst (v := 1) hx hb dX1_rowsFrom_211 (by decide) ?_
              refine lv_iadd hx hb dX1_rowsFrom_212 ?_
              refine lv_iload hx hb dX1_rowsFrom_213 (lv_at hl 3 rfl) ?_
              refine lv_iload hx hb dX1_rowsFrom_215 (lv_at hl 4 rfl) ?_
              obtain ⟨v_12, hc_11, h⟩ := bd_at h
              refine caVI (As := [.long v_10, .int (x3 + (1 : Int32)), .int x4, .int x5]) (rest := [.int x7_6, .int x6_5]) hC hw hl.1 lm_RX1_92 li_RX1 lk_yX1_rowsFrom li_yX1_rowsFrom ll_yX1_rowsFrom 13 1 (cD_13 cy a S) rfl 4 rfl hd_X1_rowsFrom (by omega) (by decide) (Nat.le_of_ble_eq_true rfl) dX1_rowsFrom_217 (hrec v_10 ((x3 + (1 : Int32))) x4 x5 S _ hc_11) (fun H locs hw => ?_)
              refine lv_imul hx hb dX1_rowsFrom_220 ?_
              refine lv_iadd hx hb dX1_rowsFrom_221 ?_
              refine lv_topi (fun x6_13 ex6_13 => ?_)
              have h := nm_at ex6_13 h
              refine lv_istore (lv' := [(6, .int x6_13), (0, .ref (a 13)), (1, .long x1), (3, .int x3), (4, .int x4), (5, .int x5), (7, .int x7_6)]) hx hb dX1_rowsFrom_222 hl (by decide) rfl (fun ls hl => ?_)
              refine lv_iload hx hb dX1_rowsFrom_224 (lv_at hl 0 rfl) ?_
              exact rtI hC hr hk hw (so_at h) rfl dX1_rowsFrom_226
          · intro j_7 hj_7 h
            refine lq3_ok (fun (x6_14 : Int32) (x7_15 : Int32) (x8_16 : Int32) => ∀ (H : Heap) (locs : List Loc) (ls : Array Slot), InW D (wD cy a) A s.heap H locs S → lv_has ls 11 [(0, .ref (a 13)), (1, .long x1), (3, .int x3), (4, .int x4), (5, .int x5), (6, .int x6_14), (7, .int x7_15), (8, .int x8_16)] → W p l e (rmN (lv + 4)) s m args below meth c H locs 0 0 (QI below args s D (wD cy a) A r S) (F0 m 112 ls [])) ?_ fu (0 : Int32) (0 : Int32) (0 : Int32) h H locs ls hw (lv_sub hl [3, 4, 5, 6, 7, 2, 1, 0] rfl)
            intro ag_17 hag_17 x6_14 x7_15 x8_16 h H locs ls hw hl
            unfold m_X1_rowsFrom_L112 at h
            refine lv_iload hx hb dX1_rowsFrom_112 (lv_at hl 7 rfl) ?_
            refine lv_bipush (v := 6) hx hb dX1_rowsFrom_114 (by decide) ?_
            refine lv_icmp_ge (tgt := 192) hx hb dX1_rowsFrom_116 (by decide) (fun c_18 => ?_) (fun c_18 => ?_)
            · have h := if_at_t c_18 h
              exact hj_7 x6_14 x7_15 h H locs ls hw (lv_sub hl [0, 1, 2, 3, 4, 5, 6] rfl)
            · have h := if_at_f c_18 h
              refine lv_aload_n hx hb dX1_rowsFrom_119 rfl (lv_at hl 0 rfl) ?_
              refine gf (v := .ref (a 3)) hC hw in_X1 13 1 0 (cD_13 cy a S) rfl (by decide) lf_RX1_9 rfl rfl dX1_rowsFrom_120 ?_
              refine lv_iload hx hb dX1_rowsFrom_123 (lv_at hl 7 rfl) ?_
              obtain ⟨v_20, hc_19, h⟩ := bd_at h
              refine caVI (As := [.int x8_16]) (rest := []) hC hw hl.1 lm_RX1_75 li_RX3 lk_yX3_mayBurn li_yX3_mayBurn ll_yX3_mayBurn 3 2 (cD_3 cy a S) rfl 1 rfl hd_X3_mayBurn (by omega) (by decide) (Nat.le_of_ble_eq_true rfl) dX1_rowsFrom_125 (k_X3_mayBurn l D cy a fu x8_16 S _ hc_19) (fun H locs hw => ?_)
              refine jn2_ok (fun (x6_21 : Int32) (x7_22 : Int32) => ∀ (H : Heap) (locs : List Loc) (ls : Array Slot), InW D (wD cy a) A s.heap H locs S → lv_has ls 11 [(0, .ref (a 13)), (1, .long x1), (3, .int x3), (4, .int x4), (5, .int x5), (6, .int x6_21), (7, .int x7_22), (8, .int x8_16)] → W p l e (rmN (lv + 4)) s m args below meth c H locs 0 0 (QI below args s D (wD cy a) A r S) (F0 m 186 ls [])) ?_ ?_ h
              · intro x6_21 x7_22 h H locs ls hw hl
                obtain ⟨x8_24, ex8_24⟩ : ∃ z : Int32, z = x8_16 + (1 : Int32) := ⟨_, rfl⟩
                have h := nm_at ex8_24 h
                refine lv_iinc (v := x8_24) (lv' := [(8, .int x8_24), (0, .ref (a 13)), (1, .long x1), (3, .int x3), (4, .int x4), (5, .int x5), (6, .int x6_21), (7, .int x7_22)]) hx hb dX1_rowsFrom_186 hl (k := 7) rfl (by rw [ex8_24]; rfl) (by decide) rfl (fun ls hl => ?_)
                refine lv_goto (tgt := 112) hx hb dX1_rowsFrom_189 (by decide) ?_
                exact hag_17 x6_21 x7_22 x8_24 h H locs ls hw (lv_sub hl [1, 2, 3, 4, 5, 6, 7, 0] rfl)
              · intro j_23 hj_23 h
                refine lv_if_ne (tgt := 134) hx hb dX1_rowsFrom_128 (by decide) (fun c_25 => ?_) (fun c_25 => ?_)
                · have h := if_at_f c_25 h
                  refine lv_lload_n hx hb dX1_rowsFrom_134 rfl (lv_at hl 1 rfl) ?_
                  refine lv_iload hx hb dX1_rowsFrom_135 (lv_at hl 7 rfl) ?_
                  obtain ⟨v_27, hc_26, h⟩ := bd_at h
                  refine caSI (As := [.long x1, .int x8_16]) (rest := []) hC hw hl.1 lm_RX1_31 li_RX5 lk_yX5_fullness ls_yX5_fullness 2 rfl hd_X5_fullness (by omega) (by decide) (Nat.le_of_ble_eq_true rfl) dX1_rowsFrom_137 (k_X5_fullness l D cy (wD cy a) S fu x1 x8_16 _ hc_26) (fun H locs hw => ?_)
                  refine lv_if_ne (tgt := 149) hx hb dX1_rowsFrom_140 (by decide) (fun c_28 => ?_) (fun c_28 => ?_)
                  · have h := if_at_f c_28 h
                    refine lv_aload_n hx hb dX1_rowsFrom_149 rfl (lv_at hl 0 rfl) ?_
                    refine gf (v := .ref (a 5)) hC hw in_X1 13 1 1 (cD_13 cy a S) rfl (by decide) lf_RX1_15 rfl rfl dX1_rowsFrom_150 ?_
                    refine lv_lload_n hx hb dX1_rowsFrom_153 rfl (lv_at hl 1 rfl) ?_
                    refine lv_iload hx hb dX1_rowsFrom_154 (lv_at hl 7 rfl) ?_
                    obtain ⟨v_30, hc_29, h⟩ := bd_at h
                    refine caVL (As := [.long x1, .int x8_16]) (rest := []) hC hw hl.1 lm_RX1_35 li_RX0 lk_yX0_burntDown li_yX0_burntDown ll_yX0_burntDown 5 0 (cD_5 cy a S) rfl 2 rfl hd_X0_burntDown (by omega) (by decide) (Nat.le_of_ble_eq_true rfl) dX1_rowsFrom_156 (k_X0_burntDown l D cy a fu x1 x8_16 S _ hc_29) (fun H locs hw => ?_)
                    refine lv_lstore (lv' := [(9, .long v_30), (0, .ref (a 13)), (1, .long x1), (3, .int x3), (4, .int x4), (5, .int x5), (6, .int x6_14), (7, .int x7_15), (8, .int x8_16)]) hx hb dX1_rowsFrom_159 hl (by decide) rfl (fun ls hl => ?_)
                    refine lv_iload hx hb dX1_rowsFrom_161 (lv_at hl 6 rfl) ?_
                    refine lv_aload_n hx hb dX1_rowsFrom_163 rfl (lv_at hl 1 rfl) ?_
                    refine lv_aload_n hx hb dX1_rowsFrom_164 rfl (lv_at hl 1 rfl) ?_
                    refine gf (v := .ref (a 5)) hC hw in_X1 13 1 1 (cD_13 cy a S) rfl (by decide) lf_RX1_15 rfl rfl dX1_rowsFrom_165 ?_
                    refine lv_lload hx hb dX1_rowsFrom_168 (lv_at hl 0 rfl) ?_
                    obtain ⟨v_32, hc_31, h⟩ := bd_at h
                    refine caVL (As := [.long v_30]) (rest := [.ref (a 13), .int x6_14]) hC hw hl.1 lm_RX1_41 li_RX0 lk_yX0_rumoursGrown li_yX0_rumoursGrown ll_yX0_rumoursGrown 5 0 (cD_5 cy a S) rfl 1 rfl hd_X0_rumoursGrown (by omega) (by decide) (Nat.le_of_ble_eq_true rfl) dX1_rowsFrom_170 (k_X0_rumoursGrown l D cy a fu v_30 S _ hc_31) (fun H locs hw => ?_)
                    refine lv_iload_n hx hb dX1_rowsFrom_173 rfl (lv_at hl 3 rfl) ?_
                    refine lv_iconst (v := 1) hx hb dX1_rowsFrom_174 (by decide) ?_
                    refine lv_iadd hx hb dX1_rowsFrom_175 ?_
                    refine lv_iload hx hb dX1_rowsFrom_176 (lv_at hl 4 rfl) ?_
                    refine lv_iload hx hb dX1_rowsFrom_178 (lv_at hl 5 rfl) ?_
                    obtain ⟨v_34, hc_33, h⟩ := bd_at h
                    refine caVI (As := [.long v_32, .int (x3 + (1 : Int32)), .int x4, .int x5]) (rest := [.int x6_14]) hC hw hl.1 lm_RX1_92 li_RX1 lk_yX1_rowsFrom li_yX1_rowsFrom ll_yX1_rowsFrom 13 1 (cD_13 cy a S) rfl 4 rfl hd_X1_rowsFrom (by omega) (by decide) (Nat.le_of_ble_eq_true rfl) dX1_rowsFrom_180 (hrec v_32 ((x3 + (1 : Int32))) x4 x5 S _ hc_33) (fun H locs hw => ?_)
                    refine lv_iadd hx hb dX1_rowsFrom_183 ?_
                    refine lv_topi (fun x6_35 ex6_35 => ?_)
                    have h := nm_at ex6_35 h
                    refine lv_istore (lv' := [(6, .int x6_35), (9, .long v_30), (0, .ref (a 13)), (1, .long x1), (3, .int x3), (4, .int x4), (5, .int x5), (7, .int x7_15), (8, .int x8_16)]) hx hb dX1_rowsFrom_184 hl (by decide) rfl (fun ls hl => ?_)
                    exact hj_23 x6_35 x7_15 h H locs ls hw (lv_sub hl [2, 3, 4, 5, 6, 0, 7, 8] rfl)
                  · have h := if_at_t c_28 h
                    obtain ⟨x7_36, ex7_36⟩ : ∃ z : Int32, z = x7_15 + (1 : Int32) := ⟨_, rfl⟩
                    have h := nm_at ex7_36 h
                    refine lv_iinc (v := x7_36) (lv' := [(7, .int x7_36), (0, .ref (a 13)), (1, .long x1), (3, .int x3), (4, .int x4), (5, .int x5), (6, .int x6_14), (8, .int x8_16)]) hx hb dX1_rowsFrom_143 hl (k := 6) rfl (by rw [ex7_36]; rfl) (by decide) rfl (fun ls hl => ?_)
                    refine lv_goto (tgt := 186) hx hb dX1_rowsFrom_146 (by decide) ?_
                    exact hj_23 x6_14 x7_36 h H locs ls hw (lv_sub hl [1, 2, 3, 4, 5, 6, 0, 7] rfl)
                · have h := if_at_t c_25 h
                  refine lv_goto (tgt := 186) hx hb dX1_rowsFrom_131 (by decide) ?_
                  exact hj_23 x6_14 x7_15 h H locs ls hw (lv_sub hl [0, 1, 2, 3, 4, 5, 6, 7] rfl)
        · have h := if_at_t c_4 h
          refine lv_aload_n hx hb dX1_rowsFrom_70 rfl (lv_at hl 0 rfl) ?_
          refine gf (v := .ref (a 5)) hC hw in_X1 13 1 1 (cD_13 cy a S) rfl (by decide) lf_RX1_15 rfl rfl dX1_rowsFrom_71 ?_
          refine lv_lload_n hx hb dX1_rowsFrom_74 rfl (lv_at hl 1 rfl) ?_
          refine lv_iload hx hb dX1_rowsFrom_75 (lv_at hl 4 rfl) ?_
          obtain ⟨v_38, hc_37, h⟩ := bd_at h
          refine caVL (As := [.long x1, .int x5]) (rest := []) hC hw hl.1 lm_RX1_35 li_RX0 lk_yX0_burntDown li_yX0_burntDown ll_yX0_burntDown 5 0 (cD_5 cy a S) rfl 2 rfl hd_X0_burntDown (by omega) (by decide) (Nat.le_of_ble_eq_true rfl) dX1_rowsFrom_77 (k_X0_burntDown l D cy a fu x1 x5 S _ hc_37) (fun H locs hw => ?_)
          refine lv_lstore (lv' := [(6, .long v_38), (0, .ref (a 13)), (1, .long x1), (3, .int x3), (4, .int x4), (5, .int x5)]) hx hb dX1_rowsFrom_80 hl (by decide) rfl (fun ls hl => ?_)
          refine lv_aload_n hx hb dX1_rowsFrom_82 rfl (lv_at hl 1 rfl) ?_
          refine lv_aload_n hx hb dX1_rowsFrom_83 rfl (lv_at hl 1 rfl) ?_
          refine gf (v := .ref (a 5)) hC hw in_X1 13 1 1 (cD_13 cy a S) rfl (by decide) lf_RX1_15 rfl rfl dX1_rowsFrom_84 ?_
          refine lv_lload hx hb dX1_rowsFrom_87 (lv_at hl 0 rfl) ?_
          obtain ⟨v_40, hc_39, h⟩ := bd_at h
          refine caVL (As := [.long v_38]) (rest := [.ref (a 13)]) hC hw hl.1 lm_RX1_41 li_RX0 lk_yX0_rumoursGrown li_yX0_rumoursGrown ll_yX0_rumoursGrown 5 0 (cD_5 cy a S) rfl 1 rfl hd_X0_rumoursGrown (by omega) (by decide) (Nat.le_of_ble_eq_true rfl) dX1_rowsFrom_89 (k_X0_rumoursGrown l D cy a fu v_38 S _ hc_39) (fun H locs hw => ?_)
          refine lv_iload_n hx hb dX1_rowsFrom_92 rfl (lv_at hl 3 rfl) ?_
          refine lv_iconst (v := 1) hx hb dX1_rowsFrom_93 (by decide) ?_
          refine lv_iadd hx hb dX1_rowsFrom_94 ?_
          refine lv_iload hx hb dX1_rowsFrom_95 (lv_at hl 4 rfl) ?_
          refine lv_iload hx hb dX1_rowsFrom_97 (lv_at hl 5 rfl) ?_
          obtain ⟨v_42, hc_41, h⟩ := bd_at h
          refine caVI (As := [.long v_40, .int (x3 + (1 : Int32)), .int x4, .int x5]) (rest := []) hC hw hl.1 lm_RX1_92 li_RX1 lk_yX1_rowsFrom li_yX1_rowsFrom ll_yX1_rowsFrom 13 1 (cD_13 cy a S) rfl 4 rfl hd_X1_rowsFrom (by omega) (by decide) (Nat.le_of_ble_eq_true rfl) dX1_rowsFrom_99 (hrec v_40 ((x3 + (1 : Int32))) x4 x5 S _ hc_41) (fun H locs hw => ?_)
          exact rtI hC hr hk hw (so_at h) rfl dX1_rowsFrom_102
      · intro j_3 hj_3 h
        refine lv_icmp_le (tgt := 64) hx hb dX1_rowsFrom_33 (by decide) (fun c_43 => ?_) (fun c_43 => ?_)
        · have h := if_at_t c_43 h
          exact hj_3 h H locs ls hw (lv_sub hl [0, 1, 2, 3, 4] rfl)
        · have h := if_at_f c_43 h
          refine lv_aload_n hx hb dX1_rowsFrom_36 rfl (lv_at hl 0 rfl) ?_
          refine lv_iload_n hx hb dX1_rowsFrom_37 rfl (lv_at hl 2 rfl) ?_
          obtain ⟨v_45, hc_44, h⟩ := bd_at h
          refine caVI (As := [.int x3]) (rest := []) hC hw hl.1 lm_RX1_103 li_RX1 lk_yX1_nothingToldFrom li_yX1_nothingToldFrom ll_yX1_nothingToldFrom 13 1 (cD_13 cy a S) rfl 1 rfl hd_X1_nothingToldFrom (by omega) (by decide) (Nat.le_of_ble_eq_true rfl) dX1_rowsFrom_38 (k_X1_nothingToldFrom l D cy a fu x3 S _ hc_44) (fun H locs hw => ?_)
          refine lv_if_eq (tgt := 64) hx hb dX1_rowsFrom_41 (by decide) (fun c_46 => ?_) (fun c_46 => ?_)
          · have h := if_at_t c_46 h
            exact hj_3 h H locs ls hw (lv_sub hl [0, 1, 2, 3, 4] rfl)
          · have h := if_at_f c_46 h
            refine lv_aload_n hx hb dX1_rowsFrom_44 rfl (lv_at hl 0 rfl) ?_
            refine gf (v := .ref (a 3)) hC hw in_X1 13 1 0 (cD_13 cy a S) rfl (by decide) lf_RX1_9 rfl rfl dX1_rowsFrom_45 ?_
            obtain ⟨v_48, hc_47, h⟩ := bd_at h
            refine caVI (As := []) (rest := []) hC hw hl.1 lm_RX1_106 li_RX3 lk_yX3_lettersThatMayBurn li_yX3_lettersThatMayBurn ll_yX3_lettersThatMayBurn 3 2 (cD_3 cy a S) rfl 0 rfl hd_X3_lettersThatMayBurn (by omega) (by decide) (Nat.le_of_ble_eq_true rfl) dX1_rowsFrom_48 (k_X3_lettersThatMayBurn l D cy a fu S _ hc_47) (fun H locs hw => ?_)
            refine lv_aload_n hx hb dX1_rowsFrom_51 rfl (lv_at hl 0 rfl) ?_
            refine gf (v := .ref (a 5)) hC hw in_X1 13 1 1 (cD_13 cy a S) rfl (by decide) lf_RX1_15 rfl rfl dX1_rowsFrom_52 ?_
            refine gfN (v := .int (stI S 8)) hC hw in_X0 5 0 7 (cD_5 cy a S) rfl (by decide) lf_RX1_99 rfl rfl dX1_rowsFrom_55 ?_
            refine lv_iload_n hx hb dX1_rowsFrom_58 rfl (lv_at hl 2 rfl) ?_
            refine lv_isub hx hb dX1_rowsFrom_59 ?_
            obtain ⟨v_50, hc_49, h⟩ := bd_at h
            refine caSNI (As := [.int v_48, .int ((stI S 8) - x3)]) (rest := []) hC hw hl.1 lm_RX1_110 li_RX6 lk_yX6_power ls_yX6_power 2 rfl hd_X6_power (by omega) (by decide) (Nat.le_of_ble_eq_true rfl) dX1_rowsFrom_60 (k_X6_power l D cy (wD cy a) S fu v_48 (((stI S 8) - x3)) _ hc_49) (fun H locs hw => ?_)
            exact rtI hC hr hk hw (so_at h) rfl dX1_rowsFrom_63
    · have h := if_at_f c_2 h
      refine lv_iconst (v := 1) hx hb dX1_rowsFrom_28 (by decide) ?_
      exact rtI hC hr hk hw (so_at h) rfl dX1_rowsFrom_29
  · intro j_1 hj_1 h
    refine lv_if_le (tgt := 17) hx hb dX1_rowsFrom_1 (by decide) (fun c_51 => ?_) (fun c_51 => ?_)
    · have h := if_at_t c_51 h
      exact hj_1 h H locs ls hw (lv_sub hl [0, 1, 2, 3, 4] rfl)
    · have h := if_at_f c_51 h
      refine lv_aload_n hx hb dX1_rowsFrom_4 rfl (lv_at hl 0 rfl) ?_
      refine lv_lload_n hx hb dX1_rowsFrom_5 rfl (lv_at hl 1 rfl) ?_
      refine lv_iload_n hx hb dX1_rowsFrom_6 rfl (lv_at hl 2 rfl) ?_
      refine lv_iconst (v := 1) hx hb dX1_rowsFrom_7 (by decide) ?_
      refine lv_isub hx hb dX1_rowsFrom_8 ?_
      obtain ⟨v_53, hc_52, h⟩ := bd_at h
      refine caVI (As := [.long x1, .int (x3 - (1 : Int32))]) (rest := []) hC hw hl.1 lm_RX1_96 li_RX1 lk_yX1_isAsTold li_yX1_isAsTold ll_yX1_isAsTold 13 1 (cD_13 cy a S) rfl 2 rfl hd_X1_isAsTold (by omega) (by decide) (Nat.le_of_ble_eq_true rfl) dX1_rowsFrom_9 (k_X1_isAsTold l D cy a fu x1 ((x3 - (1 : Int32))) S _ hc_52) (fun H locs hw => ?_)
      refine lv_if_ne (tgt := 17) hx hb dX1_rowsFrom_12 (by decide) (fun c_54 => ?_) (fun c_54 => ?_)
      · have h := if_at_f c_54 h
        exact hj_1 h H locs ls hw (lv_sub hl [0, 1, 2, 3, 4] rfl)
      · have h := if_at_t c_54 h
        refine lv_iconst (v := 0) hx hb dX1_rowsFrom_15 (by decide) ?_
        exact rtI hC hr hk hw (so_at h) rfl dX1_rowsFrom_16
theorem k_X1_rowsFrom (l : Launch) (D : va_G) (cy : ClassId) (a : Nat → Nat) (fu : Nat) : ∀ (d : Nat) (x1 : Int64) (x3 : Int32) (x4 : Int32) (x5 : Int32) (S : ST) (r : Int32), m_X1_rowsFrom fu d x1 x3 x4 x5 S = some r → CtI l yX1_rowsFrom cX1_rowsFrom 11 (some .int) (d + 3) [.ref (a 13), .long x1, .int x3, .int x4, .int x5] D cy (wD cy a) S r S
  | 0, _, _, _, _, _, _, h => by simp [m_X1_rowsFrom] at h
  | d + 1, x1, x3, x4, x5, S, r, h => by
    have h2 := k_X1_rowsFrom_B l D cy a fu d (m_X1_rowsFrom fu d) (k_X1_rowsFrom l D cy a fu d) x1 x3 x4 x5 S r h
    rw [show d + 1 + 3 = d + 4 from by omega]
    exact h2
def m_X1_rowsThatFit (fu : Nat) (S : ST) : Option Int32 :=
  bd (m_X1_rowsFrom fu 8 ((stL S 0)) (0 : Int32) (-1 : Int32) (-1 : Int32) S) (fun v_2 => some v_2)
set_option maxRecDepth 100000 in
set_option maxHeartbeats 4000000 in
theorem k_X1_rowsThatFit (l : Launch) (D : va_G) (cy : ClassId) (a : Nat → Nat) (fu : Nat) (S : ST) (r : Int32) (h : m_X1_rowsThatFit fu S = some r) : CtI l yX1_rowsThatFit cX1_rowsThatFit 1 (some .int) 13 [.ref (a 13)] D cy (wD cy a) S r S := by
  refine CtI_of (by decide) (Nat.le_of_ble_eq_true rfl) ?_
  intro p e s m args below meth c A ls hC hr hk hw hl
  have hC : Cx p s m c RX1 cX1_rowsThatFit 1 args D cy := hC
  have hx := hC.1
  have hb := hC.2.1
  have hl : lv_has ls 1 [(0, .ref (a 13))] := hl
  obtain ⟨H, eH⟩ : ∃ z : Heap, z = s.heap := ⟨_, rfl⟩
  obtain ⟨locs, elocs⟩ : ∃ z : List Loc, z = [] := ⟨_, rfl⟩
  have hw : InW D (wD cy a) A s.heap H locs S := by rw [eH, elocs]; exact hw
  suffices hsu : W p l e (rmN 13) s m args below meth c H locs 0 0 (QI below args s D (wD cy a) A r S) (F0 m 0 ls []) by rw [eH, elocs] at hsu; exact hsu
  unfold m_X1_rowsThatFit at h
  refine lv_aload_n hx hb dX1_rowsThatFit_0 rfl (lv_at hl 0 rfl) ?_
  refine lv_aload_n hx hb dX1_rowsThatFit_1 rfl (lv_at hl 0 rfl) ?_
  refine gf (v := .ref (a 5)) hC hw in_X1 13 1 1 (cD_13 cy a S) rfl (by decide) lf_RX1_15 rfl rfl dX1_rowsThatFit_2 ?_
  refine gfN (v := .long (stL S 0)) hC hw in_X0 5 0 5 (cD_5 cy a S) rfl (by decide) lf_RX1_49 rfl rfl dX1_rowsThatFit_5 ?_
  refine lv_iconst (v := 0) hx hb dX1_rowsThatFit_8 (by decide) ?_
  refine lv_iconst (v := -1) hx hb dX1_rowsThatFit_9 (by decide) ?_
  refine lv_iconst (v := -1) hx hb dX1_rowsThatFit_10 (by decide) ?_
  obtain ⟨v_2, hc_1, h⟩ := bd_at h
  refine caVI (As := [.long (stL S 0), .int (0 : Int32), .int (-1 : Int32), .int (-1 : Int32)]) (rest := []) hC hw hl.1 lm_RX1_92 li_RX1 lk_yX1_rowsFrom li_yX1_rowsFrom ll_yX1_rowsFrom 13 1 (cD_13 cy a S) rfl 4 rfl hd_X1_rowsFrom (by decide) (by decide) (Nat.le_of_ble_eq_true rfl) dX1_rowsThatFit_11 (k_X1_rowsFrom l D cy a fu 8 ((stL S 0)) (0 : Int32) (-1 : Int32) (-1 : Int32) S _ hc_1) (fun H locs hw => ?_)
  exact rtI hC hr hk hw (so_at h) rfl dX1_rowsThatFit_14
def m_X1_onlyLetterIn_L4 (fu : Nat) (x1 : Int32) (S : ST) (ag_3 : Int32 → Int32 → Option Int32) (x2_1 : Int32) (x3_2 : Int32) : Option Int32 :=
  (if (6 : Int32) ≤ x3_2 then some x2_1 else bd (m_X3_mayBurn fu x3_2 S) (fun v_6 => jn1 (fun (x2_7 : Int32) => nm (x3_2 + (1 : Int32)) (fun x3_9 => ag_3 x2_7 x3_9)) (fun j_8 => (if v_6 = (0 : Int32) then j_8 x2_1 else bd (m_X1_rowsFrom fu 8 ((stL S 0)) (0 : Int32) x1 x3_2 S) (fun v_12 => (if v_12 ≤ (0 : Int32) then j_8 x2_1 else (if x2_1 = (-1 : Int32) then j_8 x3_2 else some (-1 : Int32))))))))
def m_X1_onlyLetterIn (fu : Nat) (x1 : Int32) (S : ST) : Option Int32 :=
  lq2 (m_X1_onlyLetterIn_L4 fu x1 S) fu (-1 : Int32) (0 : Int32)
set_option maxRecDepth 100000 in
set_option maxHeartbeats 4000000 in
theorem k_X1_onlyLetterIn (l : Launch) (D : va_G) (cy : ClassId) (a : Nat → Nat) (fu : Nat) (x1 : Int32) (S : ST) (r : Int32) (h : m_X1_onlyLetterIn fu x1 S = some r) : CtI l yX1_onlyLetterIn cX1_onlyLetterIn 4 (some .int) 13 [.ref (a 13), .int x1] D cy (wD cy a) S r S := by
  refine CtI_of (by decide) (Nat.le_of_ble_eq_true rfl) ?_
  intro p e s m args below meth c A ls hC hr hk hw hl
  have hC : Cx p s m c RX1 cX1_onlyLetterIn 4 args D cy := hC
  have hx := hC.1
  have hb := hC.2.1
  have hl : lv_has ls 4 [(0, .ref (a 13)), (1, .int x1)] := hl
  obtain ⟨H, eH⟩ : ∃ z : Heap, z = s.heap := ⟨_, rfl⟩
  obtain ⟨locs, elocs⟩ : ∃ z : List Loc, z = [] := ⟨_, rfl⟩
  have hw : InW D (wD cy a) A s.heap H locs S := by rw [eH, elocs]; exact hw
  suffices hsu : W p l e (rmN 13) s m args below meth c H locs 0 0 (QI below args s D (wD cy a) A r S) (F0 m 0 ls []) by rw [eH, elocs] at hsu; exact hsu
  unfold m_X1_onlyLetterIn at h
  refine lv_iconst (v := -1) hx hb dX1_onlyLetterIn_0 (by decide) ?_
  refine lv_istore_n (lv' := [(2, .int (-1 : Int32)), (0, .ref (a 13)), (1, .int x1)]) hx hb dX1_onlyLetterIn_1 rfl hl (by decide) rfl (fun ls hl => ?_)
  refine lv_iconst (v := 0) hx hb dX1_onlyLetterIn_2 (by decide) ?_
  refine lv_istore_n (lv' := [(3, .int (0 : Int32)), (2, .int (-1 : Int32)), (0, .ref (a 13)), (1, .int x1)]) hx hb dX1_onlyLetterIn_3 rfl hl (by decide) rfl (fun ls hl => ?_)
  refine lq2_ok (fun (x2_1 : Int32) (x3_2 : Int32) => ∀ (H : Heap) (locs : List Loc) (ls : Array Slot), InW D (wD cy a) A s.heap H locs S → lv_has ls 4 [(0, .ref (a 13)), (1, .int x1), (2, .int x2_1), (3, .int x3_2)] → W p l e (rmN 13) s m args below meth c H locs 0 0 (QI below args s D (wD cy a) A r S) (F0 m 4 ls [])) ?_ fu (-1 : Int32) (0 : Int32) h H locs ls hw (lv_sub hl [2, 3, 1, 0] rfl)
  intro ag_3 hag_3 x2_1 x3_2 h H locs ls hw hl
  unfold m_X1_onlyLetterIn_L4 at h
  refine lv_iload_n hx hb dX1_onlyLetterIn_4 rfl (lv_at hl 3 rfl) ?_
  refine lv_bipush (v := 6) hx hb dX1_onlyLetterIn_5 (by decide) ?_
  refine lv_icmp_ge (tgt := 53) hx hb dX1_onlyLetterIn_7 (by decide) (fun c_4 => ?_) (fun c_4 => ?_)
  · have h := if_at_t c_4 h
    refine lv_iload_n hx hb dX1_onlyLetterIn_53 rfl (lv_at hl 2 rfl) ?_
    exact rtI hC hr hk hw (so_at h) rfl dX1_onlyLetterIn_54
  · have h := if_at_f c_4 h
    refine lv_aload_n hx hb dX1_onlyLetterIn_10 rfl (lv_at hl 0 rfl) ?_
    refine gf (v := .ref (a 3)) hC hw in_X1 13 1 0 (cD_13 cy a S) rfl (by decide) lf_RX1_9 rfl rfl dX1_onlyLetterIn_11 ?_
    refine lv_iload_n hx hb dX1_onlyLetterIn_14 rfl (lv_at hl 3 rfl) ?_
    obtain ⟨v_6, hc_5, h⟩ := bd_at h
    refine caVI (As := [.int x3_2]) (rest := []) hC hw hl.1 lm_RX1_75 li_RX3 lk_yX3_mayBurn li_yX3_mayBurn ll_yX3_mayBurn 3 2 (cD_3 cy a S) rfl 1 rfl hd_X3_mayBurn (by decide) (by decide) (Nat.le_of_ble_eq_true rfl) dX1_onlyLetterIn_15 (k_X3_mayBurn l D cy a fu x3_2 S _ hc_5) (fun H locs hw => ?_)
    refine jn1_ok (fun (x2_7 : Int32) => ∀ (H : Heap) (locs : List Loc) (ls : Array Slot), InW D (wD cy a) A s.heap H locs S → lv_has ls 4 [(0, .ref (a 13)), (1, .int x1), (2, .int x2_7), (3, .int x3_2)] → W p l e (rmN 13) s m args below meth c H locs 0 0 (QI below args s D (wD cy a) A r S) (F0 m 47 ls [])) ?_ ?_ h
    · intro x2_7 h H locs ls hw hl
      obtain ⟨x3_9, ex3_9⟩ : ∃ z : Int32, z = x3_2 + (1 : Int32) := ⟨_, rfl⟩
      have h := nm_at ex3_9 h
      refine lv_iinc (v := x3_9) (lv' := [(3, .int x3_9), (0, .ref (a 13)), (1, .int x1), (2, .int x2_7)]) hx hb dX1_onlyLetterIn_47 hl (k := 3) rfl (by rw [ex3_9]; rfl) (by decide) rfl (fun ls hl => ?_)
      refine lv_goto (tgt := 4) hx hb dX1_onlyLetterIn_50 (by decide) ?_
      exact hag_3 x2_7 x3_9 h H locs ls hw (lv_sub hl [1, 2, 3, 0] rfl)
    · intro j_8 hj_8 h
      refine lv_if_eq (tgt := 47) hx hb dX1_onlyLetterIn_18 (by decide) (fun c_10 => ?_) (fun c_10 => ?_)
      · have h := if_at_t c_10 h
        exact hj_8 x2_1 h H locs ls hw (lv_sub hl [0, 1, 2, 3] rfl)
      · have h := if_at_f c_10 h
        refine lv_aload_n hx hb dX1_onlyLetterIn_21 rfl (lv_at hl 0 rfl) ?_
        refine lv_aload_n hx hb dX1_onlyLetterIn_22 rfl (lv_at hl 0 rfl) ?_
        refine gf (v := .ref (a 5)) hC hw in_X1 13 1 1 (cD_13 cy a S) rfl (by decide) lf_RX1_15 rfl rfl dX1_onlyLetterIn_23 ?_
        refine gfN (v := .long (stL S 0)) hC hw in_X0 5 0 5 (cD_5 cy a S) rfl (by decide) lf_RX1_49 rfl rfl dX1_onlyLetterIn_26 ?_
        refine lv_iconst (v := 0) hx hb dX1_onlyLetterIn_29 (by decide) ?_
        refine lv_iload_n hx hb dX1_onlyLetterIn_30 rfl (lv_at hl 1 rfl) ?_
        refine lv_iload_n hx hb dX1_onlyLetterIn_31 rfl (lv_at hl 3 rfl) ?_
        obtain ⟨v_12, hc_11, h⟩ := bd_at h
        refine caVI (As := [.long (stL S 0), .int (0 : Int32), .int x1, .int x3_2]) (rest := []) hC hw hl.1 lm_RX1_92 li_RX1 lk_yX1_rowsFrom li_yX1_rowsFrom ll_yX1_rowsFrom 13 1 (cD_13 cy a S) rfl 4 rfl hd_X1_rowsFrom (by decide) (by decide) (Nat.le_of_ble_eq_true rfl) dX1_onlyLetterIn_32 (k_X1_rowsFrom l D cy a fu 8 ((stL S 0)) (0 : Int32) x1 x3_2 S _ hc_11) (fun H locs hw => ?_)
        refine lv_if_le (tgt := 47) hx hb dX1_onlyLetterIn_35 (by decide) (fun c_13 => ?_) (fun c_13 => ?_)
        · have h := if_at_t c_13 h
          exact hj_8 x2_1 h H locs ls hw (lv_sub hl [0, 1, 2, 3] rfl)
        · have h := if_at_f c_13 h
          refine lv_iload_n hx hb dX1_onlyLetterIn_38 rfl (lv_at hl 2 rfl) ?_
          refine lv_iconst (v := -1) hx hb dX1_onlyLetterIn_39 (by decide) ?_
          refine lv_icmp_eq (tgt := 45) hx hb dX1_onlyLetterIn_40 (by decide) (fun c_14 => ?_) (fun c_14 => ?_)
          · have h := if_at_t c_14 h
            refine lv_iload_n hx hb dX1_onlyLetterIn_45 rfl (lv_at hl 3 rfl) ?_
            refine lv_istore_n (lv' := [(2, .int x3_2), (0, .ref (a 13)), (1, .int x1), (3, .int x3_2)]) hx hb dX1_onlyLetterIn_46 rfl hl (by decide) rfl (fun ls hl => ?_)
            exact hj_8 x3_2 h H locs ls hw (lv_sub hl [1, 2, 0, 3] rfl)
          · have h := if_at_f c_14 h
            refine lv_iconst (v := -1) hx hb dX1_onlyLetterIn_43 (by decide) ?_
            exact rtI hC hr hk hw (so_at h) rfl dX1_onlyLetterIn_44
