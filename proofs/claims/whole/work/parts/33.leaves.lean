def mcP (kd : Nat → Nat) (rm : Nat) (c : Nat → Nat) (f l : Nat) : Prop := ¬ c f % 64 = 0 ∧ pop (c f % 64) < nam (kd f) ∧ bitL (c f) l = 0 ∧ full c l < rm
theorem d_mayCopy {SD : ST} {n : Nat} {kd : Nat → Nat} {tg : Nat → Int32} {rm : Nat} {lt c : Nat → Nat} {fu : Nat} (hA : AD SD n kd tg rm lt) (hW : WF0 n kd tg rm lt) (hc : OKc n c) {f l : Nat} (hf : f < n) (hl : l < 6) : (mcP kd rm c f l ∧ m_X0_mayCopy fu (lN (enc c)) (nI f) (nI l) SD = some 1) ∨ (¬ mcP kd rm c f l ∧ m_X0_mayCopy fu (lN (enc c)) (nI f) (nI l) SD = some 0) := by
  have hn := hW.1
  have hr := hW.2.1
  have hp := pop_le (c f % 64)
  have hfl := full_le c l
  have hnm : nam (kd f) ≤ 6 := by unfold nam; split <;> (try split) <;> omega
  unfold m_X0_mayCopy
  rw [s_leavesOf fu hc.lt (by omega), bd_some]
  by_cases h0 : c f % 64 = 0
  · rw [if_pos (show nI (c f % 64) = (0 : Int32) by rw [h0]; rfl)]
    exact Or.inr ⟨fun h => h.1 h0, rfl⟩
  rw [if_neg (show ¬ nI (c f % 64) = (0 : Int32) from nI_ne (b := 0) (by omega) (by decide) h0), bitCount32 fu _ (by omega), bd_some, d_kindOf hA hW hf, bd_some, d_namesOf fu _ (hW.2.2.1 f hf), bd_some]
  by_cases h1 : pop (c f % 64) < nam (kd f)
  · rw [if_neg (nI_ge h1 (by omega)), s_hasLeaf fu hc.lt (by omega) hl, bd_some]
    by_cases h2 : bitL (c f) l = 0
    · rw [if_pos h2, if_pos n0_0]
      unfold m_X0_hasRoom
      rw [s_fullness fu hc.lt hl, bd_some, hA.2.1]
      by_cases h3 : full c l < rm
      · rw [if_neg (nI_ge h3 (by omega)), bd_some, if_neg one0]
        exact Or.inl ⟨⟨h0, h1, h2, h3⟩, rfl⟩
      · rw [if_pos (nI_le (by omega) (by omega)), bd_some, if_pos rfl]
        exact Or.inr ⟨fun h => h3 h.2.2.2, rfl⟩
    · rw [if_neg h2, if_neg n1_0]
      exact Or.inr ⟨fun h => h2 h.2.2.1, rfl⟩
  · rw [if_pos (nI_le (by omega) (by omega))]
    exact Or.inr ⟨fun h => h1 h.2.1, rfl⟩
theorem r_mayCopy {SM : ST} {n : Nat} {kd : Nat → Nat} {tg : Nat → Int32} {rm : Nat} {lt c : Nat → Nat} {fu : Nat} (hA : AM SM n kd tg rm lt) (hW : WF0 n kd tg rm lt) (hc : OKc n c) (hN : Nw SM 3 4 n c) {f l : Nat} (hf : f < n) (hl : l < 6) (hfu : 100 ≤ fu) : (mcP kd rm c f l ∧ m_X7_mayCopy fu (nI f) (nI l) SM = some 1) ∨ (¬ mcP kd rm c f l ∧ m_X7_mayCopy fu (nI f) (nI l) SM = some 0) := by
  have hn := hW.1
  have hr := hW.2.1
  have hp := pop_le (c f % 64)
  have hfl := full_le c l
  have hnm : nam (kd f) ≤ 6 := by unfold nam; split <;> (try split) <;> omega
  have hsh : (nI (c f % 64) >>> (nI l &&& (31 : Int32))) &&& (1 : Int32) = nI (bitL (c f) l) := shr1 (hc.1 f) hl
  unfold m_X7_mayCopy
  rw [inB_nI (show f < 5 by omega) (by decide), gd_true]
  simp only [nm]
  rw [rd_nI (show f < 2 ^ 31 by omega), hN.1 f hf, hsh]
  by_cases h0 : c f % 64 = 0
  · rw [if_pos (show nI (c f % 64) = (0 : Int32) by rw [h0]; rfl)]
    exact Or.inr ⟨fun h => h.1 h0, rfl⟩
  rw [if_neg (show ¬ nI (c f % 64) = (0 : Int32) from nI_ne (b := 0) (by omega) (by decide) h0)]
  by_cases h2 : bitL (c f) l = 0
  · rw [if_pos (show nI (bitL (c f) l) = (0 : Int32) by rw [h2]; rfl), r_ones (by omega) hfu, bd_some, r_namesOf fu hA hW hf, bd_some]
    by_cases h1 : pop (c f % 64) < nam (kd f)
    · rw [if_neg (nI_ge h1 (by omega)), r_fullness_4 hA hW hc hN hl hfu, bd_some, hA.2.1]
      by_cases h3 : full c l < rm
      · rw [if_neg (nI_ge h3 (by omega))]
        exact Or.inl ⟨⟨h0, h1, h2, h3⟩, rfl⟩
      · rw [if_pos (nI_le (by omega) (by omega))]
        exact Or.inr ⟨fun h => h3 h.2.2.2, rfl⟩
    · rw [if_pos (nI_le (by omega) (by omega))]
      exact Or.inr ⟨fun h => h1 h.2.1, rfl⟩
  · rw [if_neg (show ¬ nI (bitL (c f) l) = (0 : Int32) from nI_ne (b := 0) (by have := bitL_01 (c f) l; omega) (by decide) h2)]
    exact Or.inr ⟨fun h => h2 h.2.2.1, rfl⟩
theorem op_copy {t : Nat} {SD SM : ST} (hR : Rel t SD SM) (x1 x2 : Int32) : ∃ (r : Int32) (SD1 : ST) (SM1 : ST), m_X6_copy FU x1 x2 SD = some (r, SD1) ∧ m_X7_copy FU x1 x2 SM = some (r, SM1) ∧ Rel (t + 1) SD1 SM1 := by
  have hup := hR.up
  obtain ⟨pn, n, kd, tg, rm, lt, c, am, lr, su, mv, hP, ⟨hW, hD, hM, hL, hN⟩, hC, hS, hI⟩ := hR
  have hn := hW.1.1
  unfold m_X6_copy m_X7_copy
  rcases has_cases FU hn hD.1 hM.1 x1 with ⟨h1, h2, -⟩ | ⟨f, hf, rfl, h1, h2⟩
  · rw [h1, h2]; exact ⟨_, _, _, rfl, rfl, hup⟩
  rw [h1, h2, bd_some, bd_some, if_neg one0, if_neg one0]
  rcases isL_cases FU x2 with ⟨h1, h2⟩ | ⟨l, hl, rfl, h1, h2⟩
  · rw [h1, h2]; exact ⟨_, _, _, rfl, rfl, hup⟩
  rw [h1, h2, bd_some, bd_some, if_neg one0, if_neg one0, hL]
  rcases d_mayCopy (fu := FU) hD hW.1 hW.2.1 hf hl with ⟨a1, a2⟩ | ⟨a1, a2⟩
  · rcases r_mayCopy (fu := FU) hM hW.1 hW.2.1 hN hf hl FU_100 with ⟨b1, b2⟩ | ⟨b1, b2⟩
    · obtain ⟨q0, q1, q2, q3⟩ := a1
      have htog := tog0 _ (hW.2.1.1 f) l hl q2
      have ho := orb _ (hW.2.1.1 f) l hl q2
      have hlt : f < 2 ^ 31 := by omega
      have hon : (1 : Int32) <<< (nI l &&& (31 : Int32)) = nI (2 ^ l) := (nextb l hl).2.1
      have hc' := hW.2.1.add hf hl q2
      rw [a2, b2, bd_some, bd_some, if_neg one0, if_neg one0, s_turned FU hW.2.1.lt (by omega) hl, bd_some, htog.1, inB_nI (show f < 5 by omega) (by decide)]
      simp only [nm, gd_true]
      rw [stL_puL, if_pos rfl, s_leavesOf FU hc'.lt (by omega), bd_some, upc_s, bitCount32 FU _ (by omega), bd_some, rd_nI hlt, rd_nI hlt, (wr_at hlt).1 f, if_pos rfl, hN.1 f hf, hon, ho.1, r_ones (by omega) FU_100, bd_some]
      refine ⟨_, _, _, rfl, rfl, ?_⟩
      refine ⟨pn, n, kd, tg, rm, lt, upc c f (c f + 2 ^ l), am, lr, su, mv, hP.fr rfl rfl rfl rfl, ⟨⟨hW.1, hc', full_add hW.2.1 hW.2.2.1 (by omega) hl q2 q3, hW.2.2.2⟩, hD, hM, rfl, fun g hg => ?_, fun g hg => ?_⟩, hC.fr rfl rfl rfl rfl rfl rfl rfl rfl, hS.fr rfl rfl rfl rfl, hI.fr rfl rfl rfl rfl rfl rfl rfl rfl rfl rfl rfl rfl rfl rfl rfl rfl⟩
      · rw [(wr_at hlt).1 g]
        by_cases e : g = f
        · rw [if_pos e, e, upc_s]
        · rw [if_neg e, upc_n e]; exact hN.1 g hg
      · rw [(wr_at hlt).2.1 4 (by decide), hN.2 g hg]
        by_cases e : g = f
        · rw [e, upc_s, ho.2]
        · rw [upc_n e]
    · exact absurd a1 b1
  · rcases r_mayCopy (fu := FU) hM hW.1 hW.2.1 hN hf hl FU_100 with ⟨b1, b2⟩ | ⟨b1, b2⟩
    · exact absurd b1 a1
    · rw [a2, b2]; exact ⟨_, _, _, rfl, rfl, hup⟩
theorem allR {N : Nat} {p : Nat → Bool} (h : (List.range N).all p = true) {x : Nat} (hx : x < N) : p x = true := List.all_eq_true.mp h x (List.mem_range.mpr hx)
def rf0 (x a b : Nat) : Bool := decide (a = b) || (decide (bitL x a = 0) || !decide (bitL x b = 0))
def rf1 (x a b : Nat) : Bool := rf0 x a b || (decide (tog x a < 192) && (decide (tog (tog x a) b < 192) && (decide (tog (tog x a) b / 64 = x / 64) && decide ((nI (x % 64) &&& (nI (2 ^ a) ^^^ -1)) ||| nI (2 ^ b) = nI (tog (tog x a) b % 64)))))
def rf2 (x a b k : Nat) : Bool := rf0 x a b || decide (bitL (tog (tog x a) b) k + (if k = a then 1 else 0) = bitL x k + (if k = b then 1 else 0))
theorem ren_f1 : (List.range 192).all (fun x => (List.range 6).all (fun a => (List.range 6).all (fun b => rf1 x a b))) = true := by decide +kernel
theorem ren_f2 : (List.range 192).all (fun x => (List.range 6).all (fun a => (List.range 6).all (fun b => (List.range 6).all (fun k => rf2 x a b k)))) = true := by decide +kernel
theorem ren_fact (x : Nat) (hx : x < 192) (a : Nat) (ha : a < 6) (b : Nat) (hb : b < 6) (hab : a ≠ b) (q1 : bitL x a ≠ 0) (q2 : bitL x b = 0) : tog x a < 192 ∧ tog (tog x a) b < 192 ∧ tog (tog x a) b / 64 = x / 64 ∧ (nI (x % 64) &&& (nI (2 ^ a) ^^^ -1)) ||| nI (2 ^ b) = nI (tog (tog x a) b % 64) ∧ ∀ k, k < 6 → bitL (tog (tog x a) b) k + (if k = a then 1 else 0) = bitL x k + (if k = b then 1 else 0) := by
  have h0 : rf0 x a b = false := by simp [rf0, hab, q1, q2]
  have h1 := allR (allR (allR ren_f1 hx) ha) hb
  simp only [rf1, h0, Bool.false_or, Bool.and_eq_true, decide_eq_true_eq] at h1
  refine ⟨h1.1, h1.2.1, h1.2.2.1, h1.2.2.2, fun k hk => ?_⟩
  have h2 := allR (allR (allR (allR ren_f2 hx) ha) hb) hk
  simp only [rf2, h0, Bool.false_or, decide_eq_true_eq] at h2
  exact h2
theorem op_rename {t : Nat} {SD SM : ST} (hR : Rel t SD SM) (x1 x2 x3 : Int32) : ∃ (r : Int32) (SD1 : ST) (SM1 : ST), m_X6_rename FU x1 x2 x3 SD = some (r, SD1) ∧ m_X7_rename FU x1 x2 x3 SM = some (r, SM1) ∧ Rel (t + 1) SD1 SM1 := by
  have hup := hR.up
  obtain ⟨pn, n, kd, tg, rm, lt, c, am, lr, su, mv, hP, ⟨hW, hD, hM, hL, hN⟩, hC, hS, hI⟩ := hR
  have hn := hW.1.1
  unfold m_X6_rename m_X7_rename
  rcases has_cases FU hn hD.1 hM.1 x1 with ⟨h1, h2, -⟩ | ⟨f, hf, rfl, h1, h2⟩
  · rw [h1, h2]; exact ⟨_, _, _, rfl, rfl, hup⟩
  rw [h1, h2, bd_some, bd_some, if_neg one0, if_neg one0]
  rcases isL_cases FU x2 with ⟨h1, h2⟩ | ⟨a, ha, rfl, h1, h2⟩
  · rw [h1, h2]; exact ⟨_, _, _, rfl, rfl, hup⟩
  rw [h1, h2, bd_some, bd_some, if_neg one0, if_neg one0]
  rcases isL_cases FU x3 with ⟨h1, h2⟩ | ⟨b, hb, rfl, h1, h2⟩
  · rw [h1, h2]; exact ⟨_, _, _, rfl, rfl, hup⟩
  rw [h1, h2, bd_some, bd_some, if_neg one0, if_neg one0]
  by_cases hab : a = b
  · subst hab
    rw [if_pos rfl, if_pos rfl]
    exact ⟨_, _, _, rfl, rfl, hup⟩
  rw [if_neg (nI_ne (by omega) (by omega) hab), if_neg (nI_ne (by omega) (by omega) hab), hL]
  have hlt : f < 2 ^ 31 := by omega
  have hsa : (nI (c f % 64) >>> (nI a &&& (31 : Int32))) &&& (1 : Int32) = nI (bitL (c f) a) := shr1 (hW.2.1.1 f) ha
  have hsb : (nI (c f % 64) >>> (nI b &&& (31 : Int32))) &&& (1 : Int32) = nI (bitL (c f) b) := shr1 (hW.2.1.1 f) hb
  have hfl := full_le c b
  have hr9 := hW.1.2.1
  unfold m_X0_mayRename m_X7_mayRename_4 m_X0_hasRoom
  rw [s_hasLeaf FU hW.2.1.lt (by omega) ha, s_hasLeaf FU hW.2.1.lt (by omega) hb, bd_some, bd_some, s_fullness FU hW.2.1.lt hb, bd_some, hD.2.1, inB_nI (show f < 5 by omega) (by decide)]
  simp only [gd_true]
  rw [rd_nI hlt, hN.1 f hf, hsa, hsb, r_fullness_4 hM hW.1 hW.2.1 hN hb FU_100, bd_some, hM.2.1]
  by_cases q1 : bitL (c f) a = 0
  · rw [if_pos q1, if_pos n0_0, if_neg (show ¬ nI (bitL (c f) a) = (1 : Int32) by rw [q1]; decide)]
    exact ⟨_, _, _, rfl, rfl, hup⟩
  have q1' : bitL (c f) a = 1 := by have := bitL_01 (c f) a; omega
  rw [if_neg q1, if_neg n1_0, if_pos (show nI (bitL (c f) a) = (1 : Int32) by rw [q1']; rfl)]
  by_cases q2 : bitL (c f) b = 0
  · rw [if_pos q2, if_pos n0_0, if_pos (show nI (bitL (c f) b) = (0 : Int32) by rw [q2]; rfl)]
    by_cases q3 : full c b < rm
    · have ht := ren_fact _ (hW.2.1.1 f) a ha b hb hab q1 q2
      rw [if_neg (nI_ge q3 (by omega)), bd_some, if_neg one0, bd_some, if_neg one0, bd_some, if_neg one0]
      unfold m_X5_moved
      have hc1 : ∀ g, g < 5 → upc c f (tog (c f) a) g < 256 := fun g hg => by
        by_cases e : g = f
        · rw [e, upc_s]; have := ht.1; omega
        · rw [upc_n e]; exact hW.2.1.lt g hg
      have hc2 : OKc n (upc c f (tog (tog (c f) a) b)) := by
        refine ⟨fun g => ?_, fun g hg => ?_⟩
        · by_cases e : g = f
          · rw [e, upc_s]; exact ht.2.1
          · rw [upc_n e]; exact hW.2.1.1 g
        · rw [upc_n (by omega)]; exact hW.2.1.2 g hg
      have huu : upc (upc c f (tog (c f) a)) f (tog (upc c f (tog (c f) a) f) b) = upc c f (tog (tog (c f) a) b) := by
        funext g
        by_cases e : g = f
        · rw [e, upc_s, upc_s, upc_s]
        · rw [upc_n e, upc_n e, upc_n e]
      rw [s_turned FU hW.2.1.lt (by omega) ha, bd_some, s_turned FU hc1 (by omega) hb, bd_some, huu]
      have hona : (1 : Int32) <<< (nI a &&& (31 : Int32)) = nI (2 ^ a) := (nextb a ha).2.1
      have honb : (1 : Int32) <<< (nI b &&& (31 : Int32)) = nI (2 ^ b) := (nextb b hb).2.1
      simp only [nm, bd_some]
      rw [stL_puL, if_pos rfl, s_fullness FU hc2.lt hb, bd_some, hona, honb, ht.2.2.2.1]
      have hM2 : AM (wrA SM 3 (nI f) (nI (tog (tog (c f) a) b % 64))) n kd tg rm lt := hM.ex (xs := [3]) (wr_ex hlt (by decide)) (by decide) (by decide)
      have hN2 : Nw (wrA SM 3 (nI f) (nI (tog (tog (c f) a) b % 64))) 3 4 n (upc c f (tog (tog (c f) a) b)) := by
        refine ⟨fun g hg => ?_, fun g hg => ?_⟩
        · rw [(wr_at hlt).1 g]
          by_cases e : g = f
          · rw [if_pos e, e, upc_s]
          · rw [if_neg e, upc_n e]; exact hN.1 g hg
        · rw [(wr_at hlt).2.1 4 (by decide), hN.2 g hg]
          by_cases e : g = f
          · rw [e, upc_s, ht.2.2.1]
          · rw [upc_n e]
      rw [r_fullness_4 hM2 hW.1 hc2 hN2 hb FU_100, bd_some]
      refine ⟨_, _, _, rfl, rfl, ?_⟩
      refine ⟨pn, n, kd, tg, rm, lt, upc c f (tog (tog (c f) a) b), am, lr, su, mv, hP.fr rfl rfl rfl rfl, ⟨⟨hW.1, hc2, fun k hk => ?_, hW.2.2.2⟩, hD, hM2, rfl, hN2⟩, hC.fr rfl rfl rfl rfl rfl rfl rfl rfl, hS.fr rfl rfl rfl rfl, hI.fr rfl rfl rfl rfl rfl rfl rfl rfl rfl rfl rfl rfl rfl rfl rfl rfl⟩
      have e1 := full_up (c := c) (f := f) (v := tog (tog (c f) a) b) (l := k) (by omega)
      have e2 := ht.2.2.2.2 k hk
      have e3 := hW.2.2.1 k hk
      by_cases ka : k = a
      · rw [if_pos ka, if_neg (show ¬ k = b by omega)] at e2; omega
      · by_cases kb : k = b
        · rw [if_neg ka, if_pos kb] at e2; subst kb; omega
        · rw [if_neg ka, if_neg kb] at e2; omega
    · rw [if_pos (nI_le (by omega) (by omega)), bd_some, if_pos rfl]
      exact ⟨_, _, _, rfl, rfl, hup⟩
  · rw [if_neg q2, if_neg n1_0, if_neg (show ¬ nI (bitL (c f) b) = (0 : Int32) from nI_ne (b := 0) (by have := bitL_01 (c f) b; omega) (by decide) q2)]
    exact ⟨_, _, _, rfl, rfl, hup⟩
theorem op_point {t : Nat} {SD SM : ST} (hR : Rel t SD SM) (x1 x2 : Int32) : ∃ (r : Int32) (SD1 : ST) (SM1 : ST), m_X6_point FU x1 x2 SD = some (r, SD1) ∧ m_X7_point FU x1 x2 SM = some (r, SM1) ∧ Rel (t + 1) SD1 SM1 := by
  have hup := hR.up
  obtain ⟨pn, n, kd, tg, rm, lt, c, am, lr, su, mv, hP, ⟨hW, hD, hM, hL, hN⟩, hC, hS, hI⟩ := hR
  have hn := hW.1.1
  unfold m_X6_point m_X7_point
  rcases has_cases FU hn hD.1 hM.1 x1 with ⟨h1, h2, -⟩ | ⟨f, hf, rfl, h1, h2⟩
  · rw [h1, h2]; exact ⟨_, _, _, rfl, rfl, hup⟩
  rw [h1, h2, bd_some, bd_some, if_neg one0, if_neg one0]
  simp only [jn0]
  have hlt : f < 2 ^ 31 := by omega
  have h2f : (2 : Int32) * nI f + (1 : Int32) = nI (2 * f + 1) := by rw [show (2 : Int32) * nI f = nI (2 * f) from pk_mul 2 f]; exact nI_add _ 1
  -- the rest, once the other is none or a file
  have key : (x2 = -1 ∨ ∃ g, g < n ∧ x2 = nI g) → ∃ (r : Int32) (SD1 : ST) (SM1 : ST), (if nI f = x2 then some ((-101 : Int32), SD) else bd (m_X5_lives FU (stL SD 0) (nI f)) (fun v_7 => (if v_7 = (0 : Int32) then some ((-103 : Int32), SD) else bd2 (m_X0_retarget FU (nI f) x2 SD) (fun v_10 S_11 => some (v_10, S_11))))) = some (r, SD1) ∧ (if nI f = x2 then some ((-101 : Int32), SM) else gd (inB (nI f) 5) ((if (rdA SM 3 (nI f)) = (0 : Int32) then some ((-103 : Int32), SM) else gd (inB (((2 : Int32) * nI f) + (1 : Int32)) 10) (nm ((rdA SM 2 (((2 : Int32) * nI f) + (1 : Int32)))) (fun x3_7 => gd (inB (((2 : Int32) * nI f) + (1 : Int32)) 10) (nm (wrA SM 2 (((2 : Int32) * nI f) + (1 : Int32)) x2) (fun S_8 => some (x3_7, S_8)))))))) = some (r, SM1) ∧ Rel (t + 1) SD1 SM1 := by
    intro hx2
    by_cases e : nI f = x2
    · rw [if_pos e, if_pos e]; exact ⟨_, _, _, rfl, rfl, hup⟩
    rw [if_neg e, if_neg e, hL, s_lives FU hW.2.1.lt (by omega), bd_some, h2f, inB_nI (show f < 5 by omega) (by decide), inB_nI (show 2 * f + 1 < 10 by omega) (by decide), rd_nI hlt, hN.1 f hf]
    simp only [gd_true, nm]
    rw [rd_nI (show 2 * f + 1 < 2 ^ 31 by omega), hM.2.2.2.1 f hf]
    by_cases h0 : c f % 64 = 0
    · rw [if_pos h0, if_pos n0_0, if_pos (show nI (c f % 64) = (0 : Int32) by rw [h0]; rfl)]
      exact ⟨_, _, _, rfl, rfl, hup⟩
    rw [if_neg h0, if_neg n1_0, if_neg (show ¬ nI (c f % 64) = (0 : Int32) from nI_ne (b := 0) (by omega) (by decide) h0)]
    unfold m_X0_retarget
    rw [d_targetOf hD hW.1 hf, bd_some, if_neg (show ¬ nI f < (0 : Int32) from nI_nlt (b := 0) (Nat.zero_le f) hlt), if_neg (show ¬ (5 : Int32) ≤ nI f from nI_ge (b := 5) (by omega) (by decide)), inB_nI (show f < 5 by omega) (by decide), gd_true]
    simp only [nm, bd2_some]
    refine ⟨_, _, _, rfl, rfl, ?_⟩
    refine ⟨pn, n, kd, fun g => if g = f then x2 else tg g, rm, lt, c, am, lr, su, mv, hP.fr rfl rfl rfl rfl, ⟨⟨⟨hn, hW.1.2.1, hW.1.2.2.1, fun g hg => ?_, hW.1.2.2.2.2⟩, hW.2⟩, ⟨hD.1, hD.2.1, hD.2.2.1, fun g hg => ?_, hD.2.2.2.2⟩, ⟨hM.1, hM.2.1, fun g hg => ?_, fun g hg => ?_, hM.2.2.2.2⟩, hL, hN⟩, hC.fr rfl rfl rfl rfl rfl rfl rfl rfl, hS.fr rfl rfl rfl rfl, hI.fr rfl rfl rfl rfl rfl rfl rfl rfl rfl rfl rfl rfl rfl rfl rfl rfl⟩
    · show (if g = f then x2 else tg g) = -1 ∨ ∃ q, q < n ∧ (if g = f then x2 else tg g) = nI q
      by_cases e2 : g = f
      · rw [if_pos e2]; exact hx2
      · rw [if_neg e2]; exact hW.1.2.2.2.1 g hg
    · rw [(wr_at hlt).1 g]
      show _ = if g = f then x2 else tg g
      by_cases e2 : g = f
      · rw [if_pos e2, if_pos e2]
      · rw [if_neg e2, if_neg e2]; exact hD.2.2.2.1 g hg
    · rw [(wr_at (show 2 * f + 1 < 2 ^ 31 by omega)).1, if_neg (show ¬ 2 * g = 2 * f + 1 by omega)]; exact hM.2.2.1 g hg
    · rw [(wr_at (show 2 * f + 1 < 2 ^ 31 by omega)).1]
      show _ = if g = f then x2 else tg g
      by_cases e2 : g = f
      · rw [if_pos (show 2 * g + 1 = 2 * f + 1 by omega), if_pos e2]
      · rw [if_neg (show ¬ 2 * g + 1 = 2 * f + 1 by omega), if_neg e2]; exact hM.2.2.2.1 g hg
  by_cases e1 : x2 = -1
  · rw [if_pos e1, if_pos e1]; exact key (Or.inl e1)
  rw [if_neg e1, if_neg e1]
  rcases has_cases FU hn hD.1 hM.1 x2 with ⟨h1, h2, -⟩ | ⟨g, hg, e2, h1, h2⟩
  · rw [h1, h2]; exact ⟨_, _, _, rfl, rfl, hup⟩
  · rw [h1, h2, bd_some, bd_some, if_neg one0, if_neg one0]; exact key (Or.inr ⟨g, hg, e2⟩)
