/-! promises 14, 15: how likely one lives -/
def alv (c : Nat → Nat) (f : Nat) : Nat := if c f % 64 = 0 then 0 else 1
def wl (n : Nat) (kd : Nat → Nat) (tg : Nat → Int32) (rm : Nat) (lt : Nat → Nat) (f : Nat) : Nat → (Nat → Nat) → Nat
  | 0, c => alv c f
  | y + 1, c => sumN (fun l => lt l * wl n kd tg rm lt f y (passC n kd tg rm c l)) 6
theorem burnB_dead : ∀ x, x < 192 → x % 64 = 0 → ∀ kd, kd ≤ 4 → ∀ l, l < 6 → ∀ pt, burnB kd pt x l = x := by decide +kernel
theorem growAt_ne {rm : Nat} {c : Nat → Nat} {k f : Nat} (h : f ≠ k) : ∀ d, growAt rm c k d f = c f
  | 0 => rfl
  | d + 1 => by
    unfold growAt
    by_cases hb : bitL (c k) (5 - d) = 0 ∧ full c (5 - d) < rm
    · rw [if_pos hb, upc_n h]
    · rw [if_neg hb]; exact growAt_ne h d
theorem grA_dead {rm : Nat} {kd c : Nat → Nat} {f : Nat} (h : c f % 64 = 0) : ∀ k, grA kd rm c k f % 64 = 0
  | 0 => h
  | k + 1 => by
    have ih := grA_dead (rm := rm) (kd := kd) h k
    unfold grA
    by_cases hb : kd k = 1 ∧ ¬ grA kd rm c k k % 64 = 0
    · rw [if_pos hb]
      have : f ≠ k := fun e => hb.2 (e ▸ ih)
      rw [growAt_ne this]; exact ih
    · rw [if_neg hb]; exact ih
theorem pass_dead {n : Nat} {kd : Nat → Nat} {tg : Nat → Int32} {rm : Nat} {lt c : Nat → Nat} (hW : WF0 n kd tg rm lt) (hc : OKc n c) {l f : Nat} (hl : l < 6) (h : c f % 64 = 0) : passC n kd tg rm c l f % 64 = 0 := by
  refine grA_dead ?_ n
  unfold burnC
  by_cases hf : f < n
  · rw [if_pos hf, burnB_dead _ (hc.1 f) h _ (hW.2.2.1 f hf) _ hl]; exact h
  · rw [if_neg hf]; exact h
theorem sumN_zero {g : Nat → Nat} : ∀ k, (∀ i, i < k → g i = 0) → sumN g k = 0
  | 0, _ => rfl
  | k + 1, h => by rw [sumN, sumN_zero k (fun i hi => h i (by omega)), h k (by omega)]
theorem sumN_congr {g h : Nat → Nat} : ∀ k, (∀ i, i < k → g i = h i) → sumN g k = sumN h k
  | 0, _ => rfl
  | k + 1, e => by rw [sumN, sumN, sumN_congr k (fun i hi => e i (by omega)), e k (by omega)]
theorem wl_dead {n : Nat} {kd : Nat → Nat} {tg : Nat → Int32} {rm : Nat} {lt : Nat → Nat} (hW : WF0 n kd tg rm lt) {f : Nat} : ∀ (y : Nat) {c : Nat → Nat}, OKc n c → c f % 64 = 0 → wl n kd tg rm lt f y c = 0
  | 0, c, _, h => if_pos h
  | y + 1, c, hc, h => by
    unfold wl
    refine sumN_zero 6 (fun l hl => ?_)
    rw [wl_dead hW y (passC_ok hW hc hl) (pass_dead hW hc hl h), Nat.mul_zero]
theorem burn_idle {n : Nat} {kd : Nat → Nat} {tg : Nat → Int32} {c : Nat → Nat} (hn : n ≤ 5) {l : Nat} (h : full c l = 0) : burnC n kd tg c l = c := by
  funext f
  unfold burnC
  by_cases hf : f < n
  · rw [if_pos hf]
    have hb : bitL (c f) l = 0 := by
      unfold full at h
      match f, (show f < 5 by omega) with
      | 0, _ => omega
      | 1, _ => omega
      | 2, _ => omega
      | 3, _ => omega
      | 4, _ => omega
    rw [burnB, if_pos hb]
  · rw [if_neg hf]
theorem sum_split {g h : Nat → Nat} : ∀ k, sumN (fun i => g i + h i) k = sumN g k + sumN h k
  | 0 => rfl
  | k + 1 => by rw [sumN, sumN, sumN, sum_split k]; omega
theorem sum_mulr {g : Nat → Nat} {m : Nat} : ∀ k, sumN (fun i => g i * m) k = sumN g k * m
  | 0 => by simp [sumN]
  | k + 1 => by rw [sumN, sumN, sum_mulr k, Nat.add_mul]
theorem sum_mull {g : Nat → Nat} {m : Nat} : ∀ k, sumN (fun i => m * g i) k = m * sumN g k
  | 0 => by simp [sumN]
  | k + 1 => by rw [sumN, sumN, sum_mull k, Nat.mul_add]
section WAYS
variable {SD SM : ST} {n : Nat} {kd : Nat → Nat} {tg : Nat → Int32} {rm : Nat} {lt : Nat → Nat}
theorem d_ways (hA : AD SD n kd tg rm lt) (hW : WF0 n kd tg rm lt) {f : Nat} (hf : f < n) : ∀ (d y : Nat) {c : Nat → Nat}, OKc n c → y < d → d ≤ 8 → m_X1_waysToLive FU d (lN (enc c)) (nI f) (nI y) SD = some (nI (wl n kd tg rm lt f y c)) := by
  have hn := hW.1
  intro d
  induction d with
  | zero => intro y c hc h; omega
  | succ d ih =>
    intro y c hc hy hd
    show m_X1_waysToLive_B FU (m_X1_waysToLive FU d) (lN (enc c)) (nI f) (nI y) SD = _
    unfold m_X1_waysToLive_B
    rw [s_lives FU hc.lt (by omega), bd_some]
    by_cases h0 : c f % 64 = 0
    · rw [if_pos h0, if_pos n0_0, wl_dead hW y hc h0]; rfl
    rw [if_neg h0, if_neg n1_0]
    match y, hy with
    | 0, hy =>
      rw [if_neg (show ¬ (0 : Int32) < nI 0 by decide)]
      show some (1 : Int32) = some (nI (alv c f))
      rw [alv, if_neg h0]; rfl
    | y + 1, hy =>
      rw [if_pos (show (0 : Int32) < nI (y + 1) from nI_lt (a := 0) (by omega) (by omega))]
      simp only [jn2]
      have hpr : nI (y + 1) - (1 : Int32) = nI y := nI_pred y
      have hws : ∀ l, lt l * wl n kd tg rm lt f y (passC n kd tg rm c l) = (if full c l = 0 then 0 else lt l * wl n kd tg rm lt f y (passC n kd tg rm c l)) + (if full c l = 0 then lt l else 0) * wl n kd tg rm lt f y (grA kd rm c n) := fun l => by
        by_cases hz : full c l = 0
        · rw [if_pos hz, if_pos hz, Nat.zero_add]
          unfold passC
          rw [burn_idle hn hz]
        · rw [if_neg hz, if_neg hz, Nat.zero_mul, Nat.add_zero]
      have hres : wl n kd tg rm lt f (y + 1) c = sumN (fun l => if full c l = 0 then 0 else lt l * wl n kd tg rm lt f y (passC n kd tg rm c l)) 6 + sumN (fun l => if full c l = 0 then lt l else 0) 6 * wl n kd tg rm lt f y (grA kd rm c n) := by
        rw [wl, sumN_congr 6 (fun l _ => hws l), sum_split, sum_mulr]
      rw [hres]
      refine lq3_run (fun o => o = _) 6 (fun i x z w => x = nI (sumN (fun l => if full c l = 0 then 0 else lt l * wl n kd tg rm lt f y (passC n kd tg rm c l)) i) ∧ z = nI (sumN (fun l => if full c l = 0 then lt l else 0) i) ∧ w = nI i) ?_ ?_ FU 0 _ _ _ (by omega) (by have := FU_v; omega) ⟨rfl, rfl, rfl⟩
      · rintro i x z w again hi ⟨rfl, rfl, rfl⟩
        right
        have hlt9 := hW.2.2.2.2 i hi
        have hfl := full_le c i
        unfold m_X1_waysToLive_L26
        rw [if_neg (show ¬ (6 : Int32) ≤ nI i from nI_ge (b := 6) hi (by decide)), d_tenthsOf hA hi, bd_some, s_fullness FU hc.lt hi, bd_some]
        simp only [jn2, nm]
        by_cases hz : full c i = 0
        · rw [if_pos (show nI (full c i) = (0 : Int32) by rw [hz]; rfl)]
          exact ⟨_, _, _, ⟨by rw [sumN, if_pos hz, Nat.add_zero], by rw [sumN, if_pos hz, nI_add], nI_add i 1⟩, rfl⟩
        · rw [if_neg (show ¬ nI (full c i) = (0 : Int32) from nI_ne (b := 0) (by omega) (by decide) hz)]
          by_cases ht : lt i = 0
          · rw [if_pos (show nI (lt i) ≤ (0 : Int32) from nI_le (b := 0) (by omega) (by decide))]
            exact ⟨_, _, _, ⟨by rw [sumN, if_neg hz, ht, Nat.zero_mul, Nat.add_zero], by rw [sumN, if_neg hz, Nat.add_zero], nI_add i 1⟩, rfl⟩
          · rw [if_neg (show ¬ nI (lt i) ≤ (0 : Int32) from nI_ge (a := 0) (by omega) (by omega)), d_burntDown hA hW hc hi FU_100, bd_some, d_rumoursGrown hA hW (burnC_ok hW hc hi) FU_100, bd_some, hpr]
            have hrec := ih y (passC_ok hW hc hi) (by omega) (by omega)
            rw [show enc (grA kd rm (burnC n kd tg c i) n) = enc (passC n kd tg rm c i) from rfl, hrec, bd_some, pk_mul, nI_add]
            exact ⟨_, _, _, ⟨by rw [sumN, if_neg hz], by rw [sumN, if_neg hz, Nat.add_zero], nI_add i 1⟩, rfl⟩
      · rintro x z w again ⟨rfl, rfl, rfl⟩
        unfold m_X1_waysToLive_L26
        rw [if_pos (show (6 : Int32) ≤ nI 6 by decide)]
        have hi60 : sumN (fun l => if full c l = 0 then lt l else 0) 6 ≤ 60 := by
          have hq : ∀ l, l < 6 → (if full c l = 0 then lt l else 0) ≤ 10 := fun l hl => by
            have := hW.2.2.2.2 l hl
            split <;> omega
          have q0 := hq 0 (by decide); have q1 := hq 1 (by decide); have q2 := hq 2 (by decide); have q3 := hq 3 (by decide); have q4 := hq 4 (by decide); have q5 := hq 5 (by decide)
          simp only [sumN]
          omega
        dsimp only
        generalize sumN (fun l => if full c l = 0 then lt l else 0) 6 = idle at hi60 ⊢
        by_cases hz : idle = 0
        · rw [if_pos (show nI idle ≤ (0 : Int32) from nI_le (b := 0) (by omega) (by decide)), hz, Nat.zero_mul, Nat.add_zero]
        · rw [if_neg (show ¬ nI idle ≤ (0 : Int32) from nI_ge (a := 0) (by omega) (by omega)), d_rumoursGrown hA hW hc FU_100, bd_some, hpr, ih y (grA_ok hc n (Nat.le_refl n)) (by omega) (by omega), bd_some]
          simp only [nm]
          rw [pk_mul, nI_add]
/-! the reference tries every row of letters -/
def dg (code k : Nat) : Nat := code / 6 ^ k % 6
def rn (n : Nat) (kd : Nat → Nat) (tg : Nat → Int32) (rm : Nat) (c : Nat → Nat) (code : Nat) : Nat → (Nat → Nat)
  | 0 => c
  | k + 1 => passC n kd tg rm (rn n kd tg rm c code k) (dg code k)
def wg (lt : Nat → Nat) (code : Nat) : Nat → Nat
  | 0 => 1
  | k + 1 => wg lt code k * lt (dg code k)
theorem dg_s (code k : Nat) : dg code (k + 1) = dg (code / 6) k := by
  unfold dg
  rw [Nat.div_div_eq_div_mul, Nat.pow_succ, Nat.mul_comm]
theorem dg_0 (code : Nat) : dg code 0 = code % 6 := by unfold dg; simp
theorem dg_lt (code k : Nat) : dg code k < 6 := Nat.mod_lt _ (by decide)
theorem rn_front {c : Nat → Nat} {code : Nat} : ∀ k, rn n kd tg rm c code (k + 1) = rn n kd tg rm (passC n kd tg rm c (code % 6)) (code / 6) k
  | 0 => by show passC n kd tg rm c (dg code 0) = _; rw [dg_0]; rfl
  | k + 1 => by
    show passC n kd tg rm (rn n kd tg rm c code (k + 1)) (dg code (k + 1)) = passC n kd tg rm (rn n kd tg rm (passC n kd tg rm c (code % 6)) (code / 6) k) (dg (code / 6) k)
    rw [rn_front k, dg_s]
theorem wg_front {code : Nat} : ∀ k, wg lt code (k + 1) = lt (code % 6) * wg lt (code / 6) k
  | 0 => by show wg lt code 0 * lt (dg code 0) = _; rw [dg_0]; simp [wg]
  | k + 1 => by
    show wg lt code (k + 1) * lt (dg code (k + 1)) = lt (code % 6) * (wg lt (code / 6) k * lt (dg (code / 6) k))
    rw [wg_front k, dg_s, Nat.mul_assoc]
theorem rn_ok (hW : WF0 n kd tg rm lt) {c : Nat → Nat} (hc : OKc n c) {code : Nat} : ∀ k, OKc n (rn n kd tg rm c code k)
  | 0 => hc
  | k + 1 => passC_ok hW (rn_ok hW hc k) (dg_lt code k)
theorem sum_six {g : Nat → Nat} : ∀ m, sumN g (6 * m) = sumN (fun q => sumN (fun l => g (6 * q + l)) 6) m
  | 0 => rfl
  | m + 1 => by
    rw [show 6 * (m + 1) = 6 * m + 1 + 1 + 1 + 1 + 1 + 1 by omega]
    simp only [sumN]
    rw [sum_six m]
    simp only [sumN, Nat.add_zero]
    omega
theorem sum_swap {g : Nat → Nat → Nat} : ∀ m k, sumN (fun q => sumN (fun l => g q l) k) m = sumN (fun l => sumN (fun q => g q l) m) k
  | 0, k => (sumN_zero k (fun _ _ => rfl)).symm
  | m + 1, k => by
    rw [sumN, sum_swap m k, ← sum_split]
    exact sumN_congr k (fun l _ => rfl)
theorem wl_codes {f : Nat} : ∀ (y : Nat) (c : Nat → Nat), sumN (fun code => wg lt code y * alv (rn n kd tg rm c code y) f) (6 ^ y) = wl n kd tg rm lt f y c
  | 0, c => by simp [sumN, wg, rn, wl]
  | y + 1, c => by
    rw [show 6 ^ (y + 1) = 6 * 6 ^ y by rw [Nat.pow_succ, Nat.mul_comm], sum_six, sum_swap, wl]
    refine sumN_congr 6 (fun l hl => ?_)
    rw [← wl_codes y (passC n kd tg rm c l), ← sum_mull]
    refine sumN_congr _ (fun q _ => ?_)
    rw [wg_front, rn_front, show (6 * q + l) % 6 = l by omega, show (6 * q + l) / 6 = q by omega, Nat.mul_assoc]
theorem wg_le (hW : WF0 n kd tg rm lt) (code : Nat) : ∀ k, wg lt code k ≤ 10 ^ k
  | 0 => Nat.le_refl 1
  | k + 1 => by
    have h1 := wg_le hW code k
    have h2 := hW.2.2.2.2 _ (dg_lt code k)
    rw [wg, Nat.pow_succ]
    exact Nat.mul_le_mul h1 h2
theorem r_power (a : Nat) {y : Nat} (hy : y ≤ 10) : m_X7_power FU (nI a) (nI y) = some (nI (a ^ y)) := by
  unfold m_X7_power
  refine lq2_run (fun o => o = _) y (fun i x z => x = nI (a ^ i) ∧ z = nI i) ?_ ?_ FU 0 _ _ (Nat.zero_le y) (by have := FU_v; omega) ⟨by simp; rfl, rfl⟩
  · rintro i x z again hi ⟨rfl, rfl⟩
    right
    unfold m_X7_power_L4
    rw [if_neg (nI_ge hi (by omega))]
    simp only [nm]
    exact ⟨_, _, ⟨by rw [pk_mul, Nat.pow_succ], nI_add i 1⟩, rfl⟩
  · rintro x z again ⟨rfl, rfl⟩
    unfold m_X7_power_L4
    rw [if_pos (nI_le (Nat.le_refl y) (by omega))]
theorem six_le {y : Nat} (hy : y ≤ 5) : 6 ^ y ≤ 7776 := by
  have : 6 ^ y ≤ 6 ^ 5 := Nat.pow_le_pow_right (by decide) hy
  omega
theorem ten_le {y : Nat} (hy : y ≤ 4) : 10 ^ y ≤ 10000 := by
  have : 10 ^ y ≤ 10 ^ 4 := Nat.pow_le_pow_right (by decide) hy
  omega
theorem mod6 {x : Nat} (hx : x < 2 ^ 31) : nI x - nI x / (6 : Int32) * (6 : Int32) = nI (x % 6) := pk_rem (d := 6) hx (by decide) (by decide)
theorem div6 {x : Nat} (hx : x < 2 ^ 31) : nI x / (6 : Int32) = nI (x / 6) := pk_div (d := 6) hx (by decide) (by decide)
theorem r_livesOf (hA : AM SM n kd tg rm lt) (hW : WF0 n kd tg rm lt) {c : Nat → Nat} (hc : OKc n c) (hN : Nw SM 3 4 n c) {f y : Nat} (hf : f < n) (hy : y ≤ 4) : ∃ SM', m_X7_livesOf FU (nI f) (nI y) SM = some (nI (wl n kd tg rm lt f y c), SM') ∧ Ex [5, 6, 7] SM SM' := by
  have hn := hW.1
  have h6 := six_le (show y ≤ 5 by omega)
  have h10 := ten_le hy
  rw [← wl_codes y c]
  unfold m_X7_livesOf
  refine lq3_run (fun o => ∃ SM', o = some (nI (sumN (fun code => wg lt code y * alv (rn n kd tg rm c code y) f) (6 ^ y)), SM') ∧ Ex [5, 6, 7] SM SM') (6 ^ y) (fun i x z S => x = nI (sumN (fun code => wg lt code y * alv (rn n kd tg rm c code y) f) i) ∧ z = nI i ∧ Ex [5, 6, 7] SM S) ?_ ?_ FU 0 _ _ _ (Nat.zero_le _) (by have := FU_v; omega) ⟨rfl, rfl, Ex.rf⟩
  · rintro i x z S again hi ⟨rfl, rfl, hx⟩
    right
    have hAS := hA.ex hx (by decide) (by decide)
    have hNS : Nw S 3 4 n c := hN.ex hx (by decide) (by decide)
    have hwl := wg_le hW i y
    unfold m_X7_livesOf_L5
    rw [show (6 : Int32) = nI 6 from rfl, r_power 6 (by omega), bd_some, if_neg (nI_ge hi (by omega))]
    simp only [jn1, jn2, nm]
    -- the weight
    have hwt : ∀ (K : Int32 → Option (Int32 × ST)), lq3 (m_X7_livesOf_L26 FU (nI f) (nI y) (nI (sumN (fun code => wg lt code y * alv (rn n kd tg rm c code y) f) i)) (nI i) S K) FU (1 : Int32) (nI i) (0 : Int32) = K (nI (wg lt i y)) := by
      intro K
      refine lq3_run (fun o => o = K (nI (wg lt i y))) y (fun k x z w => x = nI (wg lt i k) ∧ z = nI (i / 6 ^ k) ∧ w = nI k) ?_ ?_ FU 0 _ _ _ (Nat.zero_le y) (by have := FU_v; omega) ⟨rfl, by simp, rfl⟩
      · rintro k x z w ag hk ⟨rfl, rfl, rfl⟩
        right
        have hik : i / 6 ^ k < 2 ^ 31 := Nat.lt_of_le_of_lt (Nat.div_le_self _ _) (by omega)
        unfold m_X7_livesOf_L26
        rw [if_neg (nI_ge hk (by omega)), mod6 hik, inB_nI (Nat.mod_lt _ (by decide)) (by decide), gd_true]
        simp only [nm]
        rw [rd_nI (show i / 6 ^ k % 6 < 2 ^ 31 by omega), hAS.2.2.2.2 _ (Nat.mod_lt _ (by decide)), pk_mul, div6 hik]
        exact ⟨_, _, _, ⟨rfl, by rw [Nat.div_div_eq_div_mul, Nat.pow_succ], nI_add k 1⟩, rfl⟩
      · rintro x z w ag ⟨rfl, rfl, rfl⟩
        unfold m_X7_livesOf_L26
        rw [if_pos (nI_le (Nat.le_refl y) (by omega))]
    rw [hwt]
    by_cases hz : wg lt i y = 0
    · rw [if_pos (show nI (wg lt i y) ≤ (0 : Int32) by rw [hz]; decide)]
      exact ⟨_, _, _, ⟨by rw [sumN, hz, Nat.zero_mul, Nat.add_zero], nI_add i 1, hx⟩, rfl⟩
    · rw [if_neg (show ¬ nI (wg lt i y) ≤ (0 : Int32) from nI_ge (a := 0) (by omega) (by omega))]
      obtain ⟨S1, e1, x1, a5, a6⟩ := r_asItIs (SM := S) FU_100
      rw [e1, bd_some]
      have hN1 : Nw S1 5 6 n c := ⟨fun g hg => by rw [a5 g (by omega), hNS.1 g hg], fun g hg => by rw [a6 g (by omega), hNS.2 g hg]⟩
      -- the years
      have hys : ∃ S2, Ex [5, 6, 7] S1 S2 ∧ Nw S2 5 6 n (rn n kd tg rm c i y) ∧ ∀ K : ST → Option (Int32 × ST), lq3 (m_X7_livesOf_L76 FU (nI f) (nI y) (nI (sumN (fun code => wg lt code y * alv (rn n kd tg rm c code y) f) i)) (nI i) (nI (wg lt i y)) K) FU (nI i) (0 : Int32) S1 = K S2 := by
        have hA1 := hAS.ex x1 (by decide) (by decide)
        -- the states on the way
        have hst : ∀ k, k ≤ y → ∃ T, Ex [5, 6, 7] S1 T ∧ Nw T 5 6 n (rn n kd tg rm c i k) ∧ ∀ (K : ST → Option (Int32 × ST)) (N : Nat), lq3 (m_X7_livesOf_L76 FU (nI f) (nI y) (nI (sumN (fun code => wg lt code y * alv (rn n kd tg rm c code y) f) i)) (nI i) (nI (wg lt i y)) K) (N + k) (nI i) (0 : Int32) S1 = lq3 (m_X7_livesOf_L76 FU (nI f) (nI y) (nI (sumN (fun code => wg lt code y * alv (rn n kd tg rm c code y) f) i)) (nI i) (nI (wg lt i y)) K) N (nI (i / 6 ^ k)) (nI k) T := by
          intro k
          induction k with
          | zero => intro _; exact ⟨S1, Ex.rf, hN1, fun K N => by simp; rfl⟩
          | succ k ihk =>
            intro hk
            obtain ⟨T, tx, tn, te⟩ := ihk (by omega)
            have hAT := hA1.ex tx (by decide) (by decide)
            obtain ⟨T2, e2, x2, n2⟩ := r_pass hAT hW (rn_ok hW hc k) tn (dg_lt i k) FU_100
            refine ⟨T2, tx.tr x2, n2, fun K N => ?_⟩
            rw [show N + (k + 1) = (N + 1) + k by omega, te K (N + 1), lq3_s]
            have hik : i / 6 ^ k < 2 ^ 31 := Nat.lt_of_le_of_lt (Nat.div_le_self _ _) (by omega)
            show m_X7_livesOf_L76 FU (nI f) (nI y) _ (nI i) (nI (wg lt i y)) K (lq3 (m_X7_livesOf_L76 FU (nI f) (nI y) (nI (sumN (fun code => wg lt code y * alv (rn n kd tg rm c code y) f) i)) (nI i) (nI (wg lt i y)) K) N) (nI (i / 6 ^ k)) (nI k) T = _
            unfold m_X7_livesOf_L76
            rw [if_neg (nI_ge (show k < y by omega) (by omega)), mod6 hik, show i / 6 ^ k % 6 = dg i k from rfl, e2, bd2_some]
            simp only [nm]
            rw [div6 hik, show nI k + (1 : Int32) = nI (k + 1) from nI_add k 1, Nat.div_div_eq_div_mul, ← Nat.pow_succ]
        obtain ⟨T, tx, tn, te⟩ := hst y (Nat.le_refl y)
        refine ⟨T, tx, tn, fun K => ?_⟩
        have := te K (FU - y - 1 + 1)
        rw [show FU - y - 1 + 1 + y = FU by have := FU_v; omega] at this
        rw [this, lq3_s]
        show m_X7_livesOf_L76 FU (nI f) (nI y) _ (nI i) (nI (wg lt i y)) K _ (nI (i / 6 ^ y)) (nI y) T = K T
        unfold m_X7_livesOf_L76
        rw [if_pos (nI_le (Nat.le_refl y) (by omega))]
      obtain ⟨S2, x2, n2, e2⟩ := hys
      rw [e2, inB_nI (show f < 5 by omega) (by decide), gd_true, rd_nI (show f < 2 ^ 31 by omega), n2.1 f hf]
      have hS2 : Ex [5, 6, 7] SM S2 := hx.tr ((x1.mono (by decide)).tr x2)
      by_cases ha : rn n kd tg rm c i y f % 64 = 0
      · rw [if_pos (show nI (rn n kd tg rm c i y f % 64) = (0 : Int32) by rw [ha]; rfl)]
        exact ⟨_, _, _, ⟨by rw [sumN, alv, if_pos ha, Nat.mul_zero]; exact nI_add _ 0, nI_add i 1, hS2⟩, rfl⟩
      · rw [if_neg (show ¬ nI (rn n kd tg rm c i y f % 64) = (0 : Int32) from nI_ne (b := 0) (by omega) (by decide) ha)]
        exact ⟨_, _, _, ⟨by rw [sumN, alv, if_neg ha, Nat.mul_one]; exact nI_add _ _, nI_add i 1, hS2⟩, rfl⟩
  · rintro x z S again ⟨rfl, rfl, hx⟩
    unfold m_X7_livesOf_L5
    rw [show (6 : Int32) = nI 6 from rfl, r_power 6 (by omega), bd_some, if_pos (nI_le (Nat.le_refl _) (by omega))]
    exact ⟨S, rfl, hx⟩
end WAYS
