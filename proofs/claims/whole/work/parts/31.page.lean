/-! promises 2 to 5: the page and the law -/
theorem op_letter {t : Nat} {SD SM : ST} (hR : Rel t SD SM) (x1 : Int32) : ∃ (r : Int32) (SD1 : ST) (SM1 : ST), m_X6_letter FU x1 SD = some (r, SD1) ∧ m_X7_letter FU x1 SM = some (r, SM1) ∧ Rel (t + 1) SD1 SM1 := by
  have hup := hR.up
  obtain ⟨pn, n, kd, tg, rm, lt, c, am, lr, su, mv, hP, hA, hC, hS, hI⟩ := hR
  have h10 : ¬ (1 : Int32) = 0 := by decide
  unfold m_X6_letter m_X7_letter
  rw [show (1 : Int64) = lN 1 from rfl, show (126 : Int64) = lN 126 from rfl]
  rcases in_cases FU x1 (a := 1) (b := 126) (by decide) (by decide) with ⟨-, h2, h3⟩ | ⟨k, hk1, hk2, rfl, -, h2⟩
  · rw [h2, bd_some, if_pos rfl]
    refine ⟨_, _, _, ?_, rfl, hup⟩
    by_cases a : x1 < (1 : Int32)
    · rw [if_pos a]
    · rw [if_neg a, if_neg (show ¬ x1 ≤ (126 : Int32) from fun b => h3 ⟨Int32.not_lt.mp a, b⟩)]
  · rw [h2, bd_some, if_neg h10, L1, L126, if_neg (nI_nlt hk1 (by omega)), if_pos (nI_le hk2 (by decide))]
    obtain ⟨p1, p2, p3, p4⟩ := hP
    unfold m_X4_isFull m_X4_append
    rw [p2, p3, L10, L0]
    by_cases h : pn = 10
    · subst h
      rw [if_neg (nI_nlt (Nat.le_refl 10) (by decide)), bd_some, if_neg (show ¬ (1 : Int32) = nI 0 by decide), if_pos rfl]
      exact ⟨_, _, _, rfl, rfl, hup⟩
    · have hlt : pn < 2 ^ 31 := by omega
      rw [if_pos (nI_lt (by omega) (by decide)), bd_some, if_pos rfl, if_neg (nI_nlt (Nat.zero_le pn) hlt), if_neg (nI_ge (by omega) (by decide)), inB_nI (by omega) (by decide), if_neg (nI_ne hlt (by decide) h)]
      simp only [gd_true, nm, bd2_some, (wr_at hlt).2.2.1, p2, p3, L1, nI_add, stI_puI, if_true]
      refine ⟨_, _, _, rfl, rfl, ?_⟩
      refine ⟨pn + 1, n, kd, tg, rm, lt, c, am, lr, su, mv, ⟨by omega, rfl, rfl, fun i hi => ?_⟩, hA, ⟨hC.1, hC.2.1, hC.2.2.1, by have := hC.2.2.2.1; omega, hC.2.2.2.2⟩, hS, hI⟩
      rw [stR_puI, stR_puI, (wr_at hlt).1 i, (wr_at hlt).1 i]
      by_cases e : i = pn
      · rw [if_pos e, if_pos e]; exact ⟨rfl, k, hk1, hk2, rfl⟩
      · rw [if_neg e, if_neg e]; exact p4 i (by omega)
theorem op_blank {t : Nat} {SD SM : ST} (hR : Rel t SD SM) : ∃ (r : Int32) (SD1 : ST) (SM1 : ST), m_X6_blank FU SD = some (r, SD1) ∧ m_X7_blank FU SM = some (r, SM1) ∧ Rel (t + 1) SD1 SM1 := by
  obtain ⟨pn, n, kd, tg, rm, lt, c, am, lr, su, mv, hP, hA, hC, hS, hI⟩ := hR
  unfold m_X6_blank m_X7_blank m_X4_clear
  simp only [nm, bd2_some, hP.2.1, hP.2.2.1]
  refine ⟨_, _, _, rfl, rfl, ?_⟩
  exact ⟨0, n, kd, tg, rm, lt, c, am, lr, su, mv, ⟨by omega, rfl, rfl, fun i hi => by omega⟩, hA, ⟨hC.1, hC.2.1, hC.2.2.1, by have := hC.2.2.2.1; omega, hC.2.2.2.2⟩, hS, hI⟩
/-- whether a law has this letter at this place -/
def okL (i g a : Nat) : Bool := if i < 6 then decide (48 ≤ g) && (decide (g ≤ 57) && (decide (a + (g - 48) ≤ 10) && (!decide (i = 5) || decide (a + (g - 48) = 10)))) else if i = 6 then decide (g = 59) else if i = 7 then decide (49 ≤ g) && decide (g ≤ 57) else false
theorem isGood_ok (fu : Nat) : ∀ i, i < 10 → ∀ g, g < 127 → ∀ a, a < 11 → m_X7_isGood fu (nI i) (nI g) (nI a) = some (if okL i g a = true then nI 1 else nI 0) := by
  have h : ∀ i, i < 10 → ∀ g, g < 127 → ∀ a, a < 11 → m_X7_isGood 0 (nI i) (nI g) (nI a) = some (if okL i g a = true then nI 1 else nI 0) := by decide +kernel
  exact h
def msP (x1 x2 v : Int32) : Option Int32 :=
  (if x1 = (6 : Int32) then (if v = (59 : Int32) then some (1 : Int32) else some (0 : Int32)) else (if x1 = (7 : Int32) then bd (m_X6_within 0 (v - (48 : Int32)) (1 : Int32) (9 : Int32)) (fun v_15 => gd (zB v_15) (some v_15)) else (if (7 : Int32) < x1 then some (0 : Int32) else bd (m_X6_within 0 (v - (48 : Int32)) (0 : Int32) (9 : Int32)) (fun v_7 => (if v_7 = (0 : Int32) then some (0 : Int32) else (if x1 = (5 : Int32) then (if x2 = (10 : Int32) then some (1 : Int32) else some (0 : Int32)) else (if (10 : Int32) < x2 then some (0 : Int32) else some (1 : Int32))))))))
theorem msP_ok : ∀ i, i < 10 → ∀ g, g < 127 → ∀ a, a < 11 → msP (nI i) (if i < 6 then nI a + (nI g - 48) else nI a) (nI g) = some (if okL i g a = true then nI 1 else nI 0) := by decide +kernel
theorem d_codeAt {SD : ST} (fu : Nat) {i : Nat} (hi : i < 10) : m_X4_codeAt fu (nI i) SD = some (stR SD 0 i) := by
  unfold m_X4_codeAt
  rw [L0, L10, if_neg (nI_nlt (Nat.zero_le i) (by omega)), if_neg (nI_ge (by omega) (by decide)), inB_nI (by omega) (by decide), gd_true, rd_nI (by omega)]
theorem d_digitAt {SD : ST} (fu : Nat) {i : Nat} (hi : i < 10) : m_X4_digitAt fu (nI i) SD = some (stR SD 0 i - 48) := by
  unfold m_X4_digitAt
  rw [d_codeAt fu hi, bd_some]
theorem d_mayStand {SD : ST} (fu : Nat) {i : Nat} (hi : i < 10) (x2 : Int32) : m_X4_mayStand fu (nI i) x2 SD = msP (nI i) x2 (stR SD 0 i) := by
  unfold m_X4_mayStand
  rw [d_codeAt fu hi, d_digitAt fu hi]
  rfl
def accN (g : Nat → Nat) (i : Nat) : Nat := sumN (fun j => if j < 6 then g j - 48 else 0) i
theorem accN_s (g : Nat → Nat) (i : Nat) : accN g (i + 1) = accN g i + (if i < 6 then g i - 48 else 0) := rfl
theorem fault_run {SD SM : ST} {pn : Nat} (hP : RP pn SD SM) : ∃ (g : Nat → Nat) (r : Nat), r ≤ pn ∧ (∀ i, i < pn → stR SD 0 i = nI (g i) ∧ stR SM 0 i = nI (g i) ∧ g i ≤ 126) ∧ m_X4_firstFault FU SD = some (nI r) ∧ m_X7_faultOf FU SM = some (nI r) ∧ ∀ j, j < r → okL j (g j) (accN g j) = true := by
  obtain ⟨p1, p2, p3, p4⟩ := hP
  have hg : ∃ g : Nat → Nat, ∀ i, i < pn → stR SD 0 i = nI (g i) ∧ g i ≤ 126 := by
    refine ⟨fun i => (stR SD 0 i).toNatClampNeg, fun i hi => ?_⟩
    obtain ⟨-, k, hk1, hk2, e⟩ := p4 i hi
    show stR SD 0 i = nI (stR SD 0 i).toNatClampNeg ∧ (stR SD 0 i).toNatClampNeg ≤ 126
    rw [e, nI_clamp (by omega)]
    exact ⟨rfl, hk2⟩
  obtain ⟨g, hg⟩ := hg
  obtain ⟨r, hr1, hr2⟩ := pk_least (fun k => k = pn ∨ okL k (g k) (accN g k) = false) ⟨pn, Or.inl rfl⟩
  have hrp : r ≤ pn := by
    rcases Nat.lt_or_ge pn r with h | h
    · exact absurd (Or.inl rfl) (hr2 pn h)
    · exact h
  have hok : ∀ j, j < r → okL j (g j) (accN g j) = true := fun j hj => by
    have := hr2 j hj
    rcases h : okL j (g j) (accN g j) with _ | _
    · exact absurd (Or.inr h) this
    · rfl
  have hacc : ∀ j, j ≤ r → accN g j ≤ 10 := by
    intro j
    induction j with
    | zero => intro _; exact Nat.zero_le 10
    | succ j ih =>
      intro hj
      have h1 := ih (by omega)
      have h2 := hok j (by omega)
      rw [accN_s]
      unfold okL at h2
      by_cases h6 : j < 6
      · rw [if_pos h6] at h2 ⊢
        simp only [Bool.and_eq_true, decide_eq_true_eq] at h2
        exact h2.2.2.1
      · rw [if_neg h6]; omega
  have hr8 : r ≤ 8 := by
    rcases Nat.lt_or_ge 8 r with h | h
    · have := hok 8 h
      simp [okL] at this
    · exact h
  refine ⟨g, r, hrp, fun i hi => ⟨(hg i hi).1, (p4 i hi).1 ▸ (hg i hi).1, (hg i hi).2⟩, ?_, ?_, hok⟩
  · unfold m_X4_firstFault
    refine lq2_run (fun o => o = _) pn (fun i x y => x = nI (accN g i) ∧ y = nI i ∧ i ≤ r) ?_ ?_ FU 0 _ _ (Nat.zero_le pn) (by have := FU_v; omega) ⟨rfl, rfl, Nat.zero_le r⟩
    · rintro i x y again hi ⟨rfl, rfl, hir⟩
      have ha := hacc i hir
      have hms := msP_ok i (by omega) (g i) (by have := (hg i hi).2; omega) (accN g i) (by omega)
      have hv : m_X4_mayStand FU (nI i) (if i < 6 then nI (accN g i) + (nI (g i) - 48) else nI (accN g i)) SD = some (if okL i (g i) (accN g i) = true then nI 1 else nI 0) := by
        rw [d_mayStand FU (by omega), (hg i hi).1, hms]
      unfold m_X4_firstFault_L4
      rw [p2, if_neg (nI_ge hi (by omega))]
      simp only [jn1, nm]
      rw [d_digitAt FU (by omega), (hg i hi).1, bd_some, L6]
      have hite : (if nI 6 ≤ nI i then bd (m_X4_mayStand FU (nI i) (nI (accN g i)) SD) (fun v_8 => if v_8 = (0 : Int32) then some (nI i) else again (nI (accN g i)) (nI i + (1 : Int32))) else bd (m_X4_mayStand FU (nI i) (nI (accN g i) + (nI (g i) - (48 : Int32))) SD) (fun v_8 => if v_8 = (0 : Int32) then some (nI i) else again (nI (accN g i) + (nI (g i) - (48 : Int32))) (nI i + (1 : Int32)))) = if okL i (g i) (accN g i) = true then again (if i < 6 then nI (accN g i) + (nI (g i) - (48 : Int32)) else nI (accN g i)) (nI i + (1 : Int32)) else some (nI i) := by
        by_cases h6 : i < 6
        · rw [if_neg (nI_ge h6 (by decide)), if_pos h6]
          rw [if_pos h6] at hv
          rw [hv, bd_some]
          by_cases ho : okL i (g i) (accN g i) = true
          · rw [if_pos ho, if_pos ho, if_neg (show ¬ nI 1 = (0 : Int32) by decide)]
          · rw [if_neg ho, if_neg ho]; exact if_pos rfl
        · rw [if_pos (nI_le (by omega) (by omega)), if_neg h6]
          rw [if_neg h6] at hv
          rw [hv, bd_some]
          by_cases ho : okL i (g i) (accN g i) = true
          · rw [if_pos ho, if_pos ho, if_neg (show ¬ nI 1 = (0 : Int32) by decide)]
          · rw [if_neg ho, if_neg ho]; exact if_pos rfl
      rw [hite]
      by_cases ho : okL i (g i) (accN g i) = true
      · right
        rw [if_pos ho]
        have hir2 : i < r := by
          rcases hr1 with h | h
          · omega
          · rcases Nat.lt_or_ge i r with q | q
            · exact q
            · have : i = r := by omega
              rw [this, h] at ho; cases ho
        refine ⟨_, _, ⟨?_, nI_add i 1, by omega⟩, rfl⟩
        rw [accN_s]
        by_cases h6 : i < 6
        · rw [if_pos h6, if_pos h6]
          have : 48 ≤ g i := by
            unfold okL at ho
            rw [if_pos h6] at ho
            simp only [Bool.and_eq_true, decide_eq_true_eq] at ho
            exact ho.1
          rw [L48, pk_sub this, nI_add]
        · rw [if_neg h6, if_neg h6]; rfl
      · left
        rw [if_neg ho]
        have : i = r := by
          rcases Nat.lt_or_ge i r with q | q
          · exact absurd (hok i q) ho
          · omega
        rw [this]
    · rintro x y again ⟨rfl, rfl, hir⟩
      unfold m_X4_firstFault_L4
      rw [p2, if_pos (nI_le (Nat.le_refl pn) (by omega)), show pn = r by omega]
  · unfold m_X7_faultOf
    refine lq2_run (fun o => o = _) pn (fun i x y => x = nI (accN g i) ∧ y = nI i ∧ i ≤ r) ?_ ?_ FU 0 _ _ (Nat.zero_le pn) (by have := FU_v; omega) ⟨rfl, rfl, Nat.zero_le r⟩
    · rintro i x y again hi ⟨rfl, rfl, hir⟩
      have ha := hacc i hir
      have hms := isGood_ok FU i (by omega) (g i) (by have := (hg i hi).2; omega) (accN g i) (by omega)
      have hcode : rdA SM 0 (nI i) = nI (g i) := by rw [rd_nI (by omega), ← (p4 i hi).1, (hg i hi).1]
      unfold m_X7_faultOf_L4
      rw [p3, if_neg (nI_ge hi (by omega)), inB_nI (by omega) (by decide), hcode]
      simp only [gd_true, jn1, nm]
      rw [hms, bd_some]
      by_cases ho : okL i (g i) (accN g i) = true
      · right
        rw [if_pos ho, if_neg (show ¬ nI 1 = (0 : Int32) by decide)]
        have hir2 : i < r := by
          rcases hr1 with h | h
          · omega
          · rcases Nat.lt_or_ge i r with q | q
            · exact q
            · have : i = r := by omega
              rw [this, h] at ho; cases ho
        by_cases h6 : i < 6
        · rw [L6, if_neg (nI_ge h6 (by decide))]
          refine ⟨_, _, ⟨?_, nI_add i 1, by omega⟩, rfl⟩
          have : 48 ≤ g i := by
            unfold okL at ho
            rw [if_pos h6] at ho
            simp only [Bool.and_eq_true, decide_eq_true_eq] at ho
            exact ho.1
          rw [accN_s, if_pos h6, L48, pk_sub this, nI_add]
        · rw [L6, if_pos (nI_le (by omega) (by omega))]
          refine ⟨_, _, ⟨?_, nI_add i 1, by omega⟩, rfl⟩
          rw [accN_s, if_neg h6, L0, nI_add]
      · left
        rw [if_neg ho]
        have : i = r := by
          rcases Nat.lt_or_ge i r with q | q
          · exact absurd (hok i q) ho
          · omega
        rw [this]
        exact if_pos rfl
    · rintro x y again ⟨rfl, rfl, hir⟩
      unfold m_X7_faultOf_L4
      rw [p3, if_pos (nI_le (Nat.le_refl pn) (by omega)), show pn = r by omega]
theorem op_fault {t : Nat} {SD SM : ST} (hR : Rel t SD SM) : ∃ (r : Int32), m_X6_fault FU SD = some r ∧ m_X7_fault FU SM = some r ∧ Rel (t + 1) SD SM := by
  have hup := hR.up
  obtain ⟨pn, n, kd, tg, rm, lt, c, am, lr, su, mv, hP, hA, hC, hS, hI⟩ := hR
  obtain ⟨g, r, -, -, h1, h2, -⟩ := fault_run hP
  unfold m_X6_fault m_X7_fault
  rw [h1, h2]
  exact ⟨_, rfl, rfl, hup⟩
/-- the lots and the room are read -/
theorem d_read {SD : ST} {g : Nat → Nat} (hg : ∀ i, i < 8 → stR SD 0 i = nI (g i)) : ∃ SD', m_X3_read_1 FU SD = some SD' ∧ (∀ k, k ≠ 5 → stI SD' k = stI SD k) ∧ (∀ k, stL SD' k = stL SD k) ∧ (∀ k, k ≠ 1 → stR SD' k = stR SD k) ∧ (∀ l, l < 6 → stR SD' 1 l = nI (g l) - 48) ∧ stI SD' 5 = nI (g 7) - 48 := by
  unfold m_X3_read_1
  simp only [jn1]
  refine lq2_run (fun o => ∃ SD', o = some SD' ∧ (∀ k, k ≠ 5 → stI SD' k = stI SD k) ∧ (∀ k, stL SD' k = stL SD k) ∧ (∀ k, k ≠ 1 → stR SD' k = stR SD k) ∧ (∀ l, l < 6 → stR SD' 1 l = nI (g l) - 48) ∧ stI SD' 5 = nI (g 7) - 48) 6 (fun i x S => x = nI i ∧ Ex [1] SD S ∧ ∀ l, l < i → stR S 1 l = nI (g l) - 48) ?_ ?_ FU 0 _ _ (by omega) (by have := FU_v; omega) ⟨rfl, Ex.rf, fun l h => by omega⟩
  · rintro i x S again hi ⟨rfl, hx, h1⟩
    right
    have hlt : i < 2 ^ 31 := by omega
    unfold m_X3_read_1_L2
    rw [L6, if_neg (nI_ge hi (by decide)), d_digitAt FU (by omega), bd_some, inB_nI hi (by decide), hx.2.2 0 (by decide), hg i (by omega)]
    simp only [gd_true, nm]
    refine ⟨_, _, ⟨nI_add i 1, hx.tr (wr_ex hlt (by decide)), fun l hl => ?_⟩, rfl⟩
    rw [(wr_at hlt).1 l]
    by_cases e : l = i
    · rw [if_pos e, e]
    · rw [if_neg e, h1 l (by omega)]
  · rintro x S again ⟨rfl, hx, h1⟩
    unfold m_X3_read_1_L2
    rw [L6, if_pos (nI_le (Nat.le_refl 6) (by decide))]
    dsimp only
    rw [L7, d_digitAt FU (by decide), bd_some, hx.2.2 0 (by decide), hg 7 (by decide)]
    simp only [nm]
    refine ⟨_, rfl, fun k hk => ?_, fun k => hx.2.1 k, fun k hk => hx.2.2 k (by simpa using hk), h1, rfl⟩
    rw [stI_puI, if_neg hk, hx.1]
theorem op_law {t : Nat} (ht : t < 1000) {SD SM : ST} (hR : Rel t SD SM) : ∃ (r : Int32) (SD1 : ST) (SM1 : ST), m_X6_law FU SD = some (r, SD1) ∧ m_X7_law FU SM = some (r, SM1) ∧ Rel (t + 1) SD1 SM1 := by
  have hup := hR.up
  obtain ⟨pn, n, kd, tg, rm, lt, c, am, lr, su, mv, hP, hA, hC, hS, hI⟩ := hR
  obtain ⟨g, r, hr, hg, h1, h2, hok⟩ := fault_run hP
  obtain ⟨p1, p2, p3, p4⟩ := hP
  unfold m_X6_law m_X7_law m_X4_isLaw
  rw [p2, p3, h1, h2, bd_some, bd_some, L8]
  by_cases h8 : pn = 8
  · subst h8
    rw [if_pos rfl, if_pos rfl]
    by_cases hr8 : r = 8
    · subst hr8
      rw [if_pos rfl, bd_some, if_neg (show ¬ (1 : Int32) = 0 by decide), if_pos (nI_le (Nat.le_refl 8) (by decide))]
      -- the digits
      have hdig : ∀ i, i < 6 → 48 ≤ g i ∧ g i ≤ 57 := fun i hi => by
        have := hok i (by omega)
        unfold okL at this
        rw [if_pos hi] at this
        simp only [Bool.and_eq_true, decide_eq_true_eq] at this
        exact ⟨this.1, this.2.1⟩
      have hsum : accN g 6 = 10 := by
        have := hok 5 (by omega)
        unfold okL at this
        rw [if_pos (by decide)] at this
        simp only [Bool.and_eq_true, decide_eq_true_eq] at this
        have h9 := this.2.2.2
        simp at h9
        rw [accN_s, if_pos (by decide)]
        exact h9
      have hroom : 49 ≤ g 7 ∧ g 7 ≤ 57 := by
        have := hok 7 (by omega)
        simpa [okL] using this
      -- the class
      obtain ⟨S1, e1, i1, l1, r1, t1, q1⟩ := d_read (SD := SD) (g := g) (fun i hi => (hg i (by omega)).1)
      rw [e1, bd_some]
      -- the reference
      have hm : ∃ SM', (lq2 (m_X7_law_L23 FU (fun S_5 => gd (inB (7 : Int32) 10) (nm (puI S_5 1 ((rdA S_5 0 (7 : Int32)) - (48 : Int32))) (fun S_7 => nm (puI S_7 4 (0 : Int32)) (fun S_8 => nm (puI S_8 2 (0 : Int32)) (fun S_9 => nm (puI S_9 7 (0 : Int32)) (fun S_10 => nm (puI S_10 3 ((stI S_10 3) + (1 : Int32))) (fun S_11 => nm (puI S_11 0 (0 : Int32)) (fun S_12 => some ((stI S_12 1), S_12)))))))))) FU (0 : Int32) SM) = some (nI (g 7 - 48), SM') ∧ (∀ k, k ∉ [0, 1, 2, 3, 4, 7] → stI SM' k = stI SM k) ∧ stI SM' 0 = 0 ∧ stI SM' 1 = nI (g 7 - 48) ∧ stI SM' 2 = 0 ∧ stI SM' 3 = stI SM 3 + 1 ∧ stI SM' 4 = 0 ∧ stI SM' 7 = 0 ∧ (∀ k, k ≠ 1 → stR SM' k = stR SM k) ∧ ∀ l, l < 6 → stR SM' 1 l = nI (g l) - 48 := by
        refine lq2_run (fun o => ∃ SM', o = some (nI (g 7 - 48), SM') ∧ (∀ k, k ∉ [0, 1, 2, 3, 4, 7] → stI SM' k = stI SM k) ∧ stI SM' 0 = 0 ∧ stI SM' 1 = nI (g 7 - 48) ∧ stI SM' 2 = 0 ∧ stI SM' 3 = stI SM 3 + 1 ∧ stI SM' 4 = 0 ∧ stI SM' 7 = 0 ∧ (∀ k, k ≠ 1 → stR SM' k = stR SM k) ∧ ∀ l, l < 6 → stR SM' 1 l = nI (g l) - 48) 6 (fun i x S => x = nI i ∧ Ex [1] SM S ∧ ∀ l, l < i → stR S 1 l = nI (g l) - 48) ?_ ?_ FU 0 _ _ (by omega) (by have := FU_v; omega) ⟨rfl, Ex.rf, fun l h => by omega⟩
        · rintro i x S again hi ⟨rfl, hx, h1⟩
          right
          have hlt : i < 2 ^ 31 := by omega
          unfold m_X7_law_L23
          rw [L6, if_neg (nI_ge hi (by decide)), inB_nI (show i < 10 by omega) (by decide), inB_nI hi (by decide)]
          simp only [gd_true, nm]
          refine ⟨_, _, ⟨nI_add i 1, hx.tr (wr_ex hlt (by decide)), fun l hl => ?_⟩, rfl⟩
          rw [(wr_at hlt).1 l, rd_nI hlt, hx.2.2 0 (by decide), (hg i (by omega)).2.1]
          by_cases e : l = i
          · rw [if_pos e, e]
          · rw [if_neg e, h1 l (by omega)]
        · rintro x S again ⟨rfl, hx, h1⟩
          unfold m_X7_law_L23
          rw [L6, if_pos (nI_le (Nat.le_refl 6) (by decide))]
          dsimp only
          rw [L7, inB_nI (show 7 < 10 by decide) (by decide)]
          simp only [gd_true, nm]
          rw [rd_nI (by decide), hx.2.2 0 (by decide), (hg 7 (by decide)).2.1, L48, pk_sub (show 48 ≤ g 7 by omega)]
          refine ⟨_, rfl, fun k hk => ?_, rfl, rfl, rfl, ?_, rfl, rfl, fun k hk => hx.2.2 k (by simpa using hk), h1⟩
          · simp at hk
            simp only [stI_puI, hk, if_false]
            exact hx.1 k
          · show stI S 3 + 1 = _
            rw [hx.1]
      obtain ⟨SM', em, im, m0, m1, m2, m3, m4, m7, rmm, tm⟩ := hm
      unfold m_X4_clear m_X0_clear
      simp only [nm, jn1, bd2_some, bd_some]
      have hq : stI S1 5 = nI (g 7 - 48) := by rw [q1, L48, pk_sub (show 48 ≤ g 7 by omega)]
      rw [← hq] at em
      refine ⟨stI S1 5, _, SM', rfl, em, ?_⟩
      · obtain ⟨c1, c2, c3, c4, c5, c6, c7, c8, c9, c10⟩ := hC
        refine ⟨0, 0, kd, tg, g 7 - 48, fun l => g l - 48, fun _ => 0, 0, lr + 1, su, mv, ⟨by omega, rfl, m0, fun i hi => by omega⟩, ⟨⟨⟨by omega, by omega, fun f h => by omega, fun f h => by omega, fun l hl => ?_⟩, ⟨fun f => show 0 < 192 by decide, fun f _ => rfl⟩, fun l _ => ?_, fun _ => rfl, fun _ => ?_⟩, ⟨rfl, ?_, fun f h => by omega, fun f h => by omega, fun l hl => ?_⟩, ⟨m4, m1, fun f h => by omega, fun f h => by omega, fun l hl => ?_⟩, rfl, fun f h => by omega, fun f h => by omega⟩, ⟨?_, ?_, ?_, by omega, ?_, ?_, c7, ?_, ?_, c10⟩, ⟨by omega, rfl, m7, fun i hi => by omega⟩, Or.inr ⟨rfl, ?_⟩⟩
        · have := hdig l hl; show g l - 48 ≤ 10; omega
        · simp [full, bitL]
        · have : sumN (fun l => g l - 48) 6 = accN g 6 := by simp [accN, sumN]
          rw [this, hsum]
        · show stI S1 5 = _
          rw [q1, L48, pk_sub (by omega)]
        · show stR S1 1 l = _
          rw [t1 l hl, L48, pk_sub (by have := hdig l hl; omega)]
        · rw [tm l hl, L48, pk_sub (by have := hdig l hl; omega)]
        · show (0 : Int32) = _
          rw [m2]
        · show stI S1 1 + 1 = _
          rw [i1 1 (by decide), c2]; exact nI_add lr 1
        · rw [m3, c3]; exact nI_add lr 1
        · show stI S1 2 = _
          rw [i1 2 (by decide), c5]
        · rw [im 5 (by decide), c6]
        · show stI S1 3 = _
          rw [i1 3 (by decide), c8]
        · rw [im 6 (by decide), c9]
        · rw [im 9 (by decide)]
          rcases hI with ⟨-, h, -⟩ | ⟨-, h | ⟨k, hk, h⟩⟩
          · exact Or.inr ⟨lr, by omega, h⟩
          · exact Or.inl h
          · exact Or.inr ⟨k, by omega, h⟩
    · rw [if_neg (nI_ne (by omega) (by decide) hr8), bd_some, if_pos rfl, if_neg (nI_ge (by omega) (by decide))]
      exact ⟨_, _, _, rfl, rfl, hup⟩
  · rw [if_neg (nI_ne (by omega) (by decide) h8), if_neg (nI_ne (by omega) (by decide) h8), bd_some, if_pos rfl]
    exact ⟨_, _, _, rfl, rfl, hup⟩
