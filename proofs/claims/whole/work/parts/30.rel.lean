/-! the relation between the class's state and the reference's -/
theorem FU_ex : ∃ n : Nat, 1000000000 ≤ n := ⟨1000000000, Nat.le_refl _⟩
/-- the fuel of all pure programs: some number, large enough (its value is nobody's business, least of all the kernel's) -/
noncomputable def FU : Nat := Classical.choose FU_ex
theorem FU_v : 1000000000 ≤ FU := Classical.choose_spec FU_ex
theorem FU_100 : 100 ≤ FU := by have := FU_v; omega
def RP (pn : Nat) (SD SM : ST) : Prop := pn ≤ 10 ∧ stI SD 4 = nI pn ∧ stI SM 0 = nI pn ∧ ∀ i, i < pn → stR SD 0 i = stR SM 0 i ∧ ∃ k, 1 ≤ k ∧ k ≤ 126 ∧ stR SD 0 i = nI k
def WF (n : Nat) (kd : Nat → Nat) (tg : Nat → Int32) (rm : Nat) (lt : Nat → Nat) (c : Nat → Nat) : Prop :=
  WF0 n kd tg rm lt ∧ OKc n c ∧ (∀ l, l < 6 → full c l ≤ rm) ∧ (rm = 0 → n = 0) ∧ (rm ≠ 0 → sumN lt 6 = 10)
def RA (n : Nat) (kd : Nat → Nat) (tg : Nat → Int32) (rm : Nat) (lt : Nat → Nat) (c : Nat → Nat) (SD SM : ST) : Prop :=
  WF n kd tg rm lt c ∧ AD SD n kd tg rm lt ∧ AM SM n kd tg rm lt ∧ stL SD 0 = lN (enc c) ∧ Nw SM 3 4 n c
def RC (t lr su mv : Nat) (SD SM : ST) : Prop :=
  stI SD 7 = stI SM 2 ∧ stI SD 1 = nI lr ∧ stI SM 3 = nI lr ∧ lr ≤ t ∧ stI SD 2 = nI su ∧ stI SM 5 = nI su ∧ su ≤ 30 ∧ stI SD 3 = nI mv ∧ stI SM 6 = nI mv ∧ mv ≤ 10
def RS (am : Nat) (SD SM : ST) : Prop := am ≤ 5 ∧ stI SD 8 = nI am ∧ stI SM 7 = nI am ∧ ∀ i, i < am → stR SD 4 i = stR SM 9 i
def RK (rm : Nat) (lt : Nat → Nat) (SD SM : ST) : Prop := ∃ (n : Nat) (kd : Nat → Nat) (tg : Nat → Int32) (c : Nat → Nat) (am : Nat), WF n kd tg rm lt c ∧ stI SD 9 = nI n ∧ stI SM 10 = nI n ∧
  (∀ f, f < n → stR SD 5 f = nI (kd f)) ∧ (∀ f, f < n → stR SD 6 f = tg f) ∧ (∀ f, f < n → stR SM 11 (2 * f) = nI (kd f)) ∧ (∀ f, f < n → stR SM 11 (2 * f + 1) = tg f) ∧
  stL SD 1 = lN (enc c) ∧ Nw SM 12 13 n c ∧ stI SD 10 = stI SM 11 ∧ am ≤ 5 ∧ stI SD 11 = nI am ∧ stI SM 12 = nI am ∧ ∀ i, i < am → stR SD 7 i = stR SM 14 i
def RI (lr rm : Nat) (lt : Nat → Nat) (SD SM : ST) : Prop :=
  (stI SD 0 = nI 1 ∧ stI SM 9 = nI lr ∧ RK rm lt SD SM) ∨ (stI SD 0 = nI 0 ∧ (stI SM 9 = -1 ∨ ∃ k, k < lr ∧ stI SM 9 = nI k))
def Rel (t : Nat) (SD SM : ST) : Prop := ∃ (pn n : Nat) (kd : Nat → Nat) (tg : Nat → Int32) (rm : Nat) (lt c : Nat → Nat) (am lr su mv : Nat),
  RP pn SD SM ∧ RA n kd tg rm lt c SD SM ∧ RC t lr su mv SD SM ∧ RS am SD SM ∧ RI lr rm lt SD SM
theorem rel_init : Rel 0 SD0 SM0 := by
  refine ⟨0, 0, fun _ => 0, fun _ => 0, 0, fun _ => 0, fun _ => 0, 0, 0, 0, 0, ?_, ?_, ?_, ?_, ?_⟩
  · exact ⟨by omega, rfl, rfl, fun i h => by omega⟩
  · refine ⟨⟨⟨by omega, by omega, fun f h => by omega, fun f h => by omega, fun l _ => Nat.zero_le 10⟩, ⟨fun f => show 0 < 192 by decide, fun f _ => rfl⟩, fun l _ => ?_, fun _ => rfl, fun h => absurd rfl h⟩, ⟨rfl, rfl, fun f h => by omega, fun f h => by omega, fun l _ => rfl⟩, ⟨rfl, rfl, fun f h => by omega, fun f h => by omega, fun l _ => rfl⟩, rfl, fun f h => by omega, fun f h => by omega⟩
    simp [full, bitL]
  · exact ⟨rfl, rfl, rfl, by omega, rfl, rfl, by omega, rfl, rfl, by omega⟩
  · exact ⟨by omega, rfl, rfl, fun i h => by omega⟩
  · exact Or.inr ⟨rfl, Or.inl rfl⟩
/-- the reference's working rows may be anything -/
def Sc (SM SM' : ST) : Prop := (∀ k, k ≠ 8 → stI SM' k = stI SM k) ∧ ∀ k, k ∉ [5, 6, 7, 8, 10] → stR SM' k = stR SM k
theorem Sc.rf {S : ST} : Sc S S := ⟨fun _ _ => rfl, fun _ _ => rfl⟩
theorem Sc.tr {S S1 S2 : ST} (h1 : Sc S S1) (h2 : Sc S1 S2) : Sc S S2 := ⟨fun k hk => (h2.1 k hk).trans (h1.1 k hk), fun k hk => (h2.2 k hk).trans (h1.2 k hk)⟩
theorem Ex.sc {xs : List Nat} {S S1 : ST} (h : ∀ k, k ∈ xs → k ∈ [5, 6, 7, 8, 10]) (h1 : Ex xs S S1) : Sc S S1 := ⟨fun k _ => h1.1 k, fun k hk => h1.2.2 k (fun q => hk (h k q))⟩
theorem AM.sc {SM SM' : ST} {n : Nat} {kd : Nat → Nat} {tg : Nat → Int32} {rm : Nat} {lt : Nat → Nat} (h : AM SM n kd tg rm lt) (hx : Sc SM SM') : AM SM' n kd tg rm lt := by
  unfold AM
  rw [hx.1 4 (by decide), hx.1 1 (by decide), hx.2 1 (by decide), hx.2 2 (by decide)]
  exact h
theorem Nw.sc {SM SM' : ST} {n : Nat} {c : Nat → Nat} {j k : Nat} (h : Nw SM j k n c) (hx : Sc SM SM') (hj : j ∉ [5, 6, 7, 8, 10]) (hk : k ∉ [5, 6, 7, 8, 10]) : Nw SM' j k n c := by
  unfold Nw
  rw [hx.2 j hj, hx.2 k hk]
  exact h
theorem RA.sc {n : Nat} {kd : Nat → Nat} {tg : Nat → Int32} {rm : Nat} {lt c : Nat → Nat} {SD SM SM' : ST} (h : RA n kd tg rm lt c SD SM) (hx : Sc SM SM') : RA n kd tg rm lt c SD SM' :=
  ⟨h.1, h.2.1, h.2.2.1.sc hx, h.2.2.2.1, h.2.2.2.2.sc hx (by decide) (by decide)⟩
theorem Rel.sc {t : Nat} {SD SM SM' : ST} (h : Rel t SD SM) (hx : Sc SM SM') : Rel t SD SM' := by
  obtain ⟨pn, n, kd, tg, rm, lt, c, am, lr, su, mv, hP, hA, hC, hS, hI⟩ := h
  refine ⟨pn, n, kd, tg, rm, lt, c, am, lr, su, mv, ?_, hA.sc hx, ?_, ?_, ?_⟩
  · unfold RP
    rw [hx.1 0 (by decide), hx.2 0 (by decide)]
    exact hP
  · unfold RC
    rw [hx.1 2 (by decide), hx.1 3 (by decide), hx.1 5 (by decide), hx.1 6 (by decide)]
    exact hC
  · unfold RS
    rw [hx.1 7 (by decide), hx.2 9 (by decide)]
    exact hS
  · unfold RI RK Nw
    rw [hx.1 9 (by decide), hx.1 10 (by decide), hx.1 11 (by decide), hx.1 12 (by decide), hx.2 11 (by decide), hx.2 12 (by decide), hx.2 13 (by decide), hx.2 14 (by decide)]
    exact hI
theorem Rel.up {t : Nat} {SD SM : ST} (h : Rel t SD SM) : Rel (t + 1) SD SM := by
  obtain ⟨pn, n, kd, tg, rm, lt, c, am, lr, su, mv, hP, hA, hC, hS, hI⟩ := h
  exact ⟨pn, n, kd, tg, rm, lt, c, am, lr, su, mv, hP, hA, ⟨hC.1, hC.2.1, hC.2.2.1, by have := hC.2.2.2.1; omega, hC.2.2.2.2⟩, hS, hI⟩
theorem RP.fr {pn : Nat} {SD SM SD1 SM1 : ST} (h : RP pn SD SM) (d1 : stI SD1 4 = stI SD 4) (d2 : stR SD1 0 = stR SD 0) (m1 : stI SM1 0 = stI SM 0) (m2 : stR SM1 0 = stR SM 0) : RP pn SD1 SM1 := by
  unfold RP
  rw [d1, d2, m1, m2]
  exact h
theorem RC.fr {t lr su mv : Nat} {SD SM SD1 SM1 : ST} (h : RC t lr su mv SD SM) (d7 : stI SD1 7 = stI SD 7) (d1 : stI SD1 1 = stI SD 1) (d2 : stI SD1 2 = stI SD 2) (d3 : stI SD1 3 = stI SD 3) (m2 : stI SM1 2 = stI SM 2) (m3 : stI SM1 3 = stI SM 3) (m5 : stI SM1 5 = stI SM 5) (m6 : stI SM1 6 = stI SM 6) : RC (t + 1) lr su mv SD1 SM1 := by
  unfold RC
  rw [d7, d1, d2, d3, m2, m3, m5, m6]
  exact ⟨h.1, h.2.1, h.2.2.1, by have := h.2.2.2.1; omega, h.2.2.2.2⟩
theorem RS.fr {am : Nat} {SD SM SD1 SM1 : ST} (h : RS am SD SM) (d1 : stI SD1 8 = stI SD 8) (d2 : stR SD1 4 = stR SD 4) (m1 : stI SM1 7 = stI SM 7) (m2 : stR SM1 9 = stR SM 9) : RS am SD1 SM1 := by
  unfold RS
  rw [d1, d2, m1, m2]
  exact h
theorem RI.fr {lr rm : Nat} {lt : Nat → Nat} {SD SM SD1 SM1 : ST} (h : RI lr rm lt SD SM) (d0 : stI SD1 0 = stI SD 0) (d9 : stI SD1 9 = stI SD 9) (d10 : stI SD1 10 = stI SD 10) (d11 : stI SD1 11 = stI SD 11) (d5 : stR SD1 5 = stR SD 5) (d6 : stR SD1 6 = stR SD 6) (d7 : stR SD1 7 = stR SD 7) (dl : stL SD1 1 = stL SD 1) (m9 : stI SM1 9 = stI SM 9) (m10 : stI SM1 10 = stI SM 10) (m11 : stI SM1 11 = stI SM 11) (m12 : stI SM1 12 = stI SM 12) (r11 : stR SM1 11 = stR SM 11) (r12 : stR SM1 12 = stR SM 12) (r13 : stR SM1 13 = stR SM 13) (r14 : stR SM1 14 = stR SM 14) : RI lr rm lt SD1 SM1 := by
  unfold RI RK Nw
  rw [d0, d9, d10, d11, d5, d6, d7, dl, m9, m10, m11, m12, r11, r12, r13, r14]
  exact h
/-! ranges of arguments -/
theorem isL_cases (fu : Nat) (x : Int32) : (m_X6_isLetter fu x = some 0 ∧ m_X7_isLetter fu x = some 0) ∨ ∃ l, l < 6 ∧ x = nI l ∧ m_X6_isLetter fu x = some 1 ∧ m_X7_isLetter fu x = some 1 := by
  have h7 : m_X7_isLetter fu x = bd (m_X6_within fu x 0 5) (fun v => gd (zB v) (some v)) := by
    unfold m_X7_isLetter
    rw [show (0 : Int64) = (0 : Int32).toInt64 from rfl, show (5 : Int64) = (5 : Int32).toInt64 from rfl, X7_in]
  rw [h7]
  unfold m_X6_isLetter
  rcases wi_cases fu x 0 5 with ⟨h, -⟩ | ⟨h, h1, h2⟩
  · rw [h]; exact Or.inl ⟨rfl, rfl⟩
  · rw [h]
    obtain ⟨k, -, hk, rfl⟩ := nI_rng (a := 0) (b := 5) (by decide) (by decide) h1 h2
    exact Or.inr ⟨k, by omega, rfl, rfl, rfl⟩
theorem in_cases (fu : Nat) (x : Int32) {a b : Nat} (ha : a < 2 ^ 31) (hb : b < 2 ^ 31) : (m_X6_within fu x (nI a) (nI b) = some 0 ∧ m_X7_in fu x.toInt64 (lN a) (lN b) = some 0 ∧ ¬ (nI a ≤ x ∧ x ≤ nI b)) ∨ ∃ k, a ≤ k ∧ k ≤ b ∧ x = nI k ∧ m_X6_within fu x (nI a) (nI b) = some 1 ∧ m_X7_in fu x.toInt64 (lN a) (lN b) = some 1 := by
  have h7 : m_X7_in fu x.toInt64 (lN a) (lN b) = m_X6_within fu x (nI a) (nI b) := by rw [← nI_l ha, ← nI_l hb, X7_in]
  rw [h7]
  rcases wi_cases fu x (nI a) (nI b) with ⟨h, h2⟩ | ⟨h, h1, h2⟩
  · exact Or.inl ⟨h, h, h2⟩
  · obtain ⟨k, hk1, hk, rfl⟩ := nI_rng ha hb h1 h2
    exact Or.inr ⟨k, hk1, hk, rfl, h, h⟩
theorem has_cases {SD SM : ST} (fu : Nat) {n : Nat} (hn : n ≤ 5) (hD : stI SD 6 = nI n) (hM : stI SM 4 = nI n) (x : Int32) : (m_X0_has fu x SD = some 0 ∧ m_X7_isFile fu x SM = some 0 ∧ ∀ f, f < n → x ≠ nI f) ∨ ∃ f, f < n ∧ x = nI f ∧ m_X0_has fu x SD = some 1 ∧ m_X7_isFile fu x SM = some 1 := by
  have h7 : m_X7_isFile fu x SM = bd (m_X6_within fu x 0 (nI n - 1)) (fun v => gd (zB v) (some v)) := by
    unfold m_X7_isFile
    rw [show (0 : Int64) = (0 : Int32).toInt64 from rfl, X7_in, hM]
  have h6 : m_X0_has fu x SD = bd (m_X6_within fu x 0 (nI n - 1)) (fun v => gd (zB v) (some v)) := by
    unfold m_X0_has
    rw [hD]
  rw [h7, h6]
  have hl : (nI n - 1).toInt = (n : Int) - 1 := by
    rw [show (1 : Int32) = nI 1 from rfl, pk_sub_toInt (by omega) (by omega)]
    rfl
  rcases wi_cases fu x 0 (nI n - 1) with ⟨h, h2⟩ | ⟨h, h1, h2⟩
  · rw [h]
    refine Or.inl ⟨rfl, rfl, fun f hf e => h2 ?_⟩
    rw [e]
    refine ⟨nI_le (a := 0) (by omega) (by omega), ?_⟩
    rw [Int32.le_iff_toInt_le, hl, nI_toInt (by omega)]
    omega
  · rw [h]
    have h1' : nI 0 ≤ x := h1
    rw [Int32.le_iff_toInt_le, nI_toInt (by decide)] at h1'
    rw [Int32.le_iff_toInt_le, hl] at h2
    refine Or.inr ⟨x.toInt.toNat, by omega, ?_, rfl, rfl⟩
    apply Int32.toInt_inj.mp
    rw [nI_toInt (by omega)]
    omega
theorem sl_cases {SD SM : ST} (fu : Nat) {rm : Nat} (hrm : rm ≤ 9) (hD : stI SD 5 = nI rm) (hM : stI SM 1 = nI rm) : (rm = 0 ∧ m_X3_stands fu SD = some 0 ∧ m_X7_lacks fu SM = some 1) ∨ (rm ≠ 0 ∧ m_X3_stands fu SD = some 1 ∧ m_X7_lacks fu SM = some 0) := by
  unfold m_X3_stands m_X7_lacks
  rw [hD, hM, L0]
  by_cases h : rm = 0
  · subst h
    exact Or.inl ⟨rfl, if_pos (nI_le (Nat.le_refl 0) (by decide)), if_pos rfl⟩
  · exact Or.inr ⟨h, if_neg (nI_ge (by omega) (by omega)), if_neg (nI_ne (by omega) (by decide) h)⟩
