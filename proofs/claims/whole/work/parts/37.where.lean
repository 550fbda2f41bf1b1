/-! lowest terms; promises 14 and 15 -/
def st2 (q : Nat × Nat) : Nat × Nat := if q.1 % 2 = 0 ∧ q.2 % 2 = 0 then (q.1 / 2, q.2 / 2) else q
def st5 (q : Nat × Nat) : Nat × Nat := if q.1 % 5 = 0 ∧ q.2 % 5 = 0 then (q.1 / 5, q.2 / 5) else q
def ilN (q : Nat × Nat) : Nat → Nat × Nat
  | 0 => q
  | k + 1 => st5 (st2 (ilN q k))
def chkT (y a : Nat) : Bool := decide (ilN (a, 10 ^ y) y = (a / Nat.gcd a (10 ^ y), 10 ^ y / Nat.gcd a (10 ^ y)))
theorem chk_all : (List.range 5).all (fun y => (List.range 101).all (fun i => (List.range 100).all (fun j => if 100 * i + j ≤ 10 ^ y then chkT y (100 * i + j) else true))) = true := by decide +kernel
theorem chk_at {y a : Nat} (hy : y ≤ 4) (ha : a ≤ 10 ^ y) : ilN (a, 10 ^ y) y = (a / Nat.gcd a (10 ^ y), 10 ^ y / Nat.gcd a (10 ^ y)) := by
  have h10 := ten_le hy
  have h := allR (allR (allR chk_all (show y < 5 by omega)) (show a / 100 < 101 by omega)) (show a % 100 < 100 by omega)
  rw [show 100 * (a / 100) + a % 100 = a by omega, if_pos ha] at h
  exact of_decide_eq_true h
theorem il_le {q : Nat × Nat} {B : Nat} (h1 : q.1 ≤ B) (h2 : q.2 ≤ B) : ∀ k, (ilN q k).1 ≤ B ∧ (ilN q k).2 ≤ B
  | 0 => ⟨h1, h2⟩
  | k + 1 => by
    have ih := il_le h1 h2 k
    have g2 : (st2 (ilN q k)).1 ≤ B ∧ (st2 (ilN q k)).2 ≤ B := by
      unfold st2
      split
      · exact ⟨Nat.le_trans (Nat.div_le_self _ _) ih.1, Nat.le_trans (Nat.div_le_self _ _) ih.2⟩
      · exact ih
    show (st5 (st2 (ilN q k))).1 ≤ B ∧ (st5 (st2 (ilN q k))).2 ≤ B
    unfold st5
    split
    · exact ⟨Nat.le_trans (Nat.div_le_self _ _) g2.1, Nat.le_trans (Nat.div_le_self _ _) g2.2⟩
    · exact g2
theorem d_power (a : Nat) {y : Nat} (hy : y ≤ 10) : m_X6_power FU (nI a) (nI y) = some (nI (a ^ y)) := by
  unfold m_X6_power
  refine lq2_run (fun o => o = _) y (fun i x z => x = nI (a ^ i) ∧ z = nI i) ?_ ?_ FU 0 _ _ (Nat.zero_le y) (by have := FU_v; omega) ⟨by simp; rfl, rfl⟩
  · rintro i x z again hi ⟨rfl, rfl⟩
    right
    unfold m_X6_power_L4
    rw [if_neg (nI_ge hi (by omega))]
    simp only [nm]
    exact ⟨_, _, ⟨by rw [pk_mul, Nat.pow_succ], nI_add i 1⟩, rfl⟩
  · rintro x z again ⟨rfl, rfl⟩
    unfold m_X6_power_L4
    rw [if_pos (nI_le (Nat.le_refl y) (by omega))]
theorem remL {x d : Nat} (hx : x < 2 ^ 31) (h0 : 0 < d) (hd : d < 2 ^ 31) : (nI x - nI x / nI d * nI d = nI 0) ↔ x % d = 0 := by
  rw [pk_rem hx h0 hd, nI_eq (by have := Nat.mod_lt x h0; omega) (by decide)]
theorem d_terms {a y p : Nat} (ha : a ≤ 10 ^ y) (hy : y ≤ 4) (hp : p ≤ 1) : m_X6_inLowestTerms FU (nI a) (nI y) (nI p) = some (if p = 0 then nI (a / Nat.gcd a (10 ^ y)) else nI (10 ^ y / Nat.gcd a (10 ^ y))) := by
  have h10 := ten_le hy
  have hch := chk_at hy ha
  unfold m_X6_inLowestTerms
  rw [show (10 : Int32) = nI 10 from rfl, d_power 10 (by omega), bd_some]
  simp only [jn2]
  refine lq3_run (fun o => o = _) y (fun i x z w => x = nI (ilN (a, 10 ^ y) i).1 ∧ z = nI (ilN (a, 10 ^ y) i).2 ∧ w = nI i) ?_ ?_ FU 0 _ _ _ (Nat.zero_le y) (by have := FU_v; omega) ⟨rfl, rfl, rfl⟩
  · rintro i x z w again hi ⟨rfl, rfl, rfl⟩
    right
    have hb := il_le (q := (a, 10 ^ y)) (B := 10 ^ y) ha (Nat.le_refl _) i
    generalize hq : ilN (a, 10 ^ y) i = q at hb ⊢
    have hnx : ilN (a, 10 ^ y) (i + 1) = st5 (st2 q) := by rw [ilN, hq]
    rw [hnx]
    have hx1 : q.1 < 2 ^ 31 := by omega
    have hx2 : q.2 < 2 ^ 31 := by omega
    unfold m_X6_inLowestTerms_L13
    rw [if_neg (nI_ge hi (by omega))]
    simp only [jn2, nm]
    have r2a : (nI q.1 - nI q.1 / (2 : Int32) * (2 : Int32) = (0 : Int32)) ↔ q.1 % 2 = 0 := remL (d := 2) hx1 (by decide) (by decide)
    have r2b : (nI q.2 - nI q.2 / (2 : Int32) * (2 : Int32) = (0 : Int32)) ↔ q.2 % 2 = 0 := remL (d := 2) hx2 (by decide) (by decide)
    have d2a : nI q.1 / (2 : Int32) = nI (q.1 / 2) := pk_div (d := 2) hx1 (by decide) (by decide)
    have d2b : nI q.2 / (2 : Int32) = nI (q.2 / 2) := pk_div (d := 2) hx2 (by decide) (by decide)
    have h5 : ∀ s : Nat × Nat, s.1 < 2 ^ 31 → s.2 < 2 ^ 31 → (if (nI s.1 - nI s.1 / (5 : Int32) * (5 : Int32)) = (0 : Int32) then (if (nI s.2 - nI s.2 / (5 : Int32) * (5 : Int32)) = (0 : Int32) then again (nI s.1 / (5 : Int32)) (nI s.2 / (5 : Int32)) (nI i + (1 : Int32)) else again (nI s.1) (nI s.2) (nI i + (1 : Int32))) else again (nI s.1) (nI s.2) (nI i + (1 : Int32))) = again (nI (st5 s).1) (nI (st5 s).2) (nI (i + 1)) := by
      intro s h1 h2
      have r5a : (nI s.1 - nI s.1 / (5 : Int32) * (5 : Int32) = (0 : Int32)) ↔ s.1 % 5 = 0 := remL (d := 5) h1 (by decide) (by decide)
      have r5b : (nI s.2 - nI s.2 / (5 : Int32) * (5 : Int32) = (0 : Int32)) ↔ s.2 % 5 = 0 := remL (d := 5) h2 (by decide) (by decide)
      have d5a : nI s.1 / (5 : Int32) = nI (s.1 / 5) := pk_div (d := 5) h1 (by decide) (by decide)
      have d5b : nI s.2 / (5 : Int32) = nI (s.2 / 5) := pk_div (d := 5) h2 (by decide) (by decide)
      have e1 : nI i + (1 : Int32) = nI (i + 1) := nI_add i 1
      unfold st5
      by_cases ga : s.1 % 5 = 0
      · by_cases gb : s.2 % 5 = 0
        · rw [if_pos (r5a.mpr ga), if_pos (r5b.mpr gb), d5a, d5b, e1, if_pos ⟨ga, gb⟩]
        · rw [if_pos (r5a.mpr ga), if_neg (fun h => gb (r5b.mp h)), e1, if_neg (fun h => gb h.2)]
      · rw [if_neg (fun h => ga (r5a.mp h)), e1, if_neg (fun h => ga h.1)]
    by_cases ga : q.1 % 2 = 0
    · by_cases gb : q.2 % 2 = 0
      · rw [if_pos (r2a.mpr ga), if_pos (r2b.mpr gb), d2a, d2b]
        have := h5 (q.1 / 2, q.2 / 2) (show q.1 / 2 < 2 ^ 31 by omega) (show q.2 / 2 < 2 ^ 31 by omega)
        rw [show st2 q = (q.1 / 2, q.2 / 2) from if_pos ⟨ga, gb⟩]
        exact ⟨_, _, _, ⟨rfl, rfl, rfl⟩, this⟩
      · rw [if_pos (r2a.mpr ga), if_neg (fun h => gb (r2b.mp h)), show st2 q = q from if_neg (fun h => gb h.2)]
        exact ⟨_, _, _, ⟨rfl, rfl, rfl⟩, h5 q hx1 hx2⟩
    · rw [if_neg (fun h => ga (r2a.mp h)), show st2 q = q from if_neg (fun h => ga h.1)]
      exact ⟨_, _, _, ⟨rfl, rfl, rfl⟩, h5 q hx1 hx2⟩
  · rintro x z w again ⟨rfl, rfl, rfl⟩
    unfold m_X6_inLowestTerms_L13
    rw [if_pos (nI_le (Nat.le_refl y) (by omega)), hch]
    by_cases h : p = 0
    · rw [h]; rfl
    · have : p = 1 := by omega
      rw [this]; rfl
theorem r_term {a y p : Nat} (ha : a ≤ 10 ^ y) (hy : y ≤ 4) (hp : p ≤ 1) : m_X7_term FU (nI a) (nI (10 ^ y)) (nI p) = some (if p = 0 then nI (a / Nat.gcd a (10 ^ y)) else nI (10 ^ y / Nat.gcd a (10 ^ y))) := by
  have h10 := ten_le hy
  have h1 : 0 < 10 ^ y := Nat.pow_pos (by decide)
  have hg0 : 0 < Nat.gcd a (10 ^ y) := Nat.gcd_pos_of_pos_right _ h1
  have hgl : Nat.gcd a (10 ^ y) ≤ 10 ^ y := Nat.gcd_le_right _ h1
  unfold m_X7_term
  simp only [jn1]
  have key : ∀ (K : Int32 → Option Int32) (N x z : Nat), x < N → x < 2 ^ 31 → z < 2 ^ 31 → lq2 (m_X7_term_L5 FU (nI a) (nI (10 ^ y)) (nI p) K) N (nI x) (nI z) = K (nI (Nat.gcd x z)) := by
    intro K N
    induction N with
    | zero => intro x z h; omega
    | succ N ih =>
      intro x z h hx hz
      rw [lq2_s]
      obtain ⟨ag, eag⟩ : ∃ g, g = lq2 (m_X7_term_L5 FU (nI a) (nI (10 ^ y)) (nI p) K) N := ⟨_, rfl⟩
      rw [← eag]
      unfold m_X7_term_L5
      by_cases h0 : x = 0
      · subst h0
        rw [if_pos n0_0, Nat.gcd_zero_left]
      · have hne : ¬ nI x = (0 : Int32) := nI_ne (b := 0) hx (by decide) h0
        rw [if_neg hne, decide_eq_true hne, gd_true]
        simp only [nm]
        have hm := Nat.mod_lt z (show 0 < x by omega)
        rw [pk_rem hz (by omega) hx, eag, ih (z % x) x (by omega) (by omega) hx, ← Nat.gcd_rec]
  rw [key _ FU a (10 ^ y) (by have := FU_v; omega) (by omega) (by omega)]
  have hne : ¬ nI (Nat.gcd a (10 ^ y)) = (0 : Int32) := nI_ne (b := 0) (by omega) (by decide) (by omega)
  rw [decide_eq_true hne, gd_true, gd_true, pk_div (by omega) hg0 (by omega), pk_div (by omega) hg0 (by omega)]
  by_cases h : p = 0
  · rw [h]; rfl
  · have : p = 1 := by omega
    rw [this]; rfl
theorem wl_le {n : Nat} {kd : Nat → Nat} {tg : Nat → Int32} {rm : Nat} {lt : Nat → Nat} {f : Nat} (hs : sumN lt 6 = 10) : ∀ (y : Nat) (c : Nat → Nat), wl n kd tg rm lt f y c ≤ 10 ^ y
  | 0, c => by show alv c f ≤ 1; unfold alv; split <;> omega
  | y + 1, c => by
    have h : ∀ k, sumN (fun l => lt l * wl n kd tg rm lt f y (passC n kd tg rm c l)) k ≤ sumN lt k * 10 ^ y := by
      intro k
      induction k with
      | zero => simp [sumN]
      | succ k ih =>
        have := Nat.mul_le_mul (Nat.le_refl (lt k)) (wl_le (n := n) (kd := kd) (tg := tg) (rm := rm) (f := f) hs y (passC n kd tg rm c k))
        simp only [sumN, Nat.add_mul]
        omega
    have := h 6
    rw [hs] at this
    rw [wl, Nat.pow_succ, Nat.mul_comm]
    exact this
theorem WF.room {n : Nat} {kd : Nat → Nat} {tg : Nat → Int32} {rm : Nat} {lt c : Nat → Nat} (hW : WF n kd tg rm lt c) {f : Nat} (hf : f < n) : sumN lt 6 = 10 := hW.2.2.2.2 (fun h => by have := hW.2.2.2.1 h; omega)
theorem odds_both {SD SM : ST} {n : Nat} {kd : Nat → Nat} {tg : Nat → Int32} {rm : Nat} {lt c : Nat → Nat} (hA : RA n kd tg rm lt c SD SM) {f y p : Nat} (hf : f < n) (hy : y ≤ 4) (hp : p ≤ 1) : ∃ r SM', bd (m_X1_waysToLive FU 8 (stL SD 0) (nI f) (nI y) SD) (fun v_11 => m_X6_inLowestTerms FU v_11 (nI y) (nI p)) = some r ∧ m_X7_oddsOf FU (nI f) (nI y) (nI p) SM = some (r, SM') ∧ Ex [5, 6, 7] SM SM' := by
  obtain ⟨hW, hD, hM, hL, hN⟩ := hA
  have hle := wl_le (n := n) (kd := kd) (tg := tg) (rm := rm) (f := f) (hW.room hf) y c
  rw [hL, d_ways hD hW.1 hf 8 y hW.2.1 (by omega) (by omega), bd_some, d_terms hle hy hp]
  unfold m_X7_oddsOf
  obtain ⟨S1, e1, x1⟩ := r_livesOf hM hW.1 hW.2.1 hN hf hy
  rw [e1, bd2_some, show (10 : Int32) = nI 10 from rfl, r_power 10 (by omega), bd_some, r_term hle hy hp, bd_some]
  exact ⟨_, S1, rfl, rfl, x1⟩
theorem bd_bd {α β γ : Type} {o : Option α} {f : α → Option β} {g : β → Option γ} : bd o (fun v => bd (f v) g) = bd (bd o f) g := by cases o <;> rfl
theorem op_odds {t : Nat} {SD SM : ST} (hR : Rel t SD SM) (x1 x2 x3 : Int32) : ∃ (r : Int32) (SM1 : ST), m_X6_odds FU x1 x2 x3 SD = some r ∧ m_X7_odds FU x1 x2 x3 SM = some (r, SM1) ∧ Rel (t + 1) SD SM1 := by
  have hup := hR.up
  obtain ⟨pn, n, kd, tg, rm, lt, c, am, lr, su, mv, hP, hA, hC, hS, hI⟩ := hR
  have hn := hA.1.1.1
  unfold m_X6_odds m_X7_odds
  rcases has_cases FU hn hA.2.1.1 hA.2.2.1.1 x1 with ⟨h1, h2, -⟩ | ⟨f, hf, rfl, h1, h2⟩
  · rw [h1, h2]; exact ⟨_, _, rfl, rfl, hup⟩
  rw [h1, h2, bd_some, bd_some, if_neg one0, if_neg one0]
  rcases in_0_4 FU x2 with ⟨h3, h4⟩ | ⟨y, hy, rfl, h3, h4⟩
  · rw [h3, h4]; exact ⟨_, _, rfl, rfl, hup⟩
  rw [h3, h4, bd_some, bd_some, if_neg one0, if_neg one0]
  rcases in_0_1 FU x3 with ⟨h5, h6⟩ | ⟨p, hp, rfl, h5, h6⟩
  · rw [h5, h6]; exact ⟨_, _, rfl, rfl, hup⟩
  rw [h5, h6, bd_some, bd_some, if_neg one0, if_neg one0]
  obtain ⟨r, S1, e1, e2, x1⟩ := odds_both hA hf hy hp
  rw [bd_bd, e1, e2]
  exact ⟨r, S1, rfl, rfl, hup.sc (x1.sc (by decide))⟩
/-- the best letter so far, and by it -/
def bcp (n : Nat) (kd : Nat → Nat) (tg : Nat → Int32) (rm : Nat) (lt c : Nat → Nat) (f y : Nat) (mc : Nat → Bool) : Nat → Int32 × Nat
  | 0 => (-1, wl n kd tg rm lt f y c)
  | i + 1 => if mc i = true ∧ (bcp n kd tg rm lt c f y mc i).2 < wl n kd tg rm lt f y (upc c f (c f + 2 ^ i)) then (nI i, wl n kd tg rm lt f y (upc c f (c f + 2 ^ i))) else bcp n kd tg rm lt c f y mc i
theorem bcp_le {n : Nat} {kd : Nat → Nat} {tg : Nat → Int32} {rm : Nat} {lt c : Nat → Nat} {f y : Nat} {mc : Nat → Bool} (hs : sumN lt 6 = 10) : ∀ i, (bcp n kd tg rm lt c f y mc i).2 ≤ 10 ^ y
  | 0 => wl_le hs y c
  | i + 1 => by
    unfold bcp
    split
    · exact wl_le hs y _
    · exact bcp_le hs i
theorem unbit : ∀ x, x < 192 → ∀ l, l < 6 → bitL x l = 0 → nI ((x + 2 ^ l) % 64) &&& (nI (2 ^ l) ^^^ -1) = nI (x % 64) := by decide +kernel
theorem where_both {SD SM : ST} {n : Nat} {kd : Nat → Nat} {tg : Nat → Int32} {rm : Nat} {lt c : Nat → Nat} (hA : RA n kd tg rm lt c SD SM) {f y : Nat} (hf : f < n) (hy : y ≤ 4) : ∃ r SM', m_X1_bestCopy FU (nI f) (nI y) SD = some r ∧ m_X7_whereOf FU (nI f) (nI y) SM = some (r, SM') ∧ Ex [5, 6, 7] SM SM' := by
  obtain ⟨hW, hD, hM, hL, hN⟩ := hA
  have hn := hW.1.1
  have h10 := ten_le hy
  have hs := hW.room hf
  have hlt : f < 2 ^ 31 := by omega
  obtain ⟨mc, emc⟩ : ∃ mc : Nat → Bool, mc = fun i => decide (¬ c f % 64 = 0 ∧ pop (c f % 64) < nam (kd f) ∧ bitL (c f) i = 0 ∧ full c i < rm) := ⟨_, rfl⟩
  have hmc : ∀ i, mc i = true ↔ mcP kd rm c f i := fun i => by rw [emc]; exact decide_eq_true_iff
  refine ⟨(bcp n kd tg rm lt c f y mc 6).1, ?_⟩
  have hd : m_X1_bestCopy FU (nI f) (nI y) SD = some (bcp n kd tg rm lt c f y mc 6).1 := by
    unfold m_X1_bestCopy
    rw [hL, d_ways hD hW.1 hf 8 y hW.2.1 (by omega) (by omega), bd_some]
    refine lq3_run (fun o => o = _) 6 (fun i x z w => x = (bcp n kd tg rm lt c f y mc i).1 ∧ z = nI (bcp n kd tg rm lt c f y mc i).2 ∧ w = nI i) ?_ ?_ FU 0 _ _ _ (by omega) (by have := FU_v; omega) ⟨rfl, rfl, rfl⟩
    · rintro i x z w again hi ⟨rfl, rfl, rfl⟩
      right
      have hb := bcp_le (n := n) (kd := kd) (tg := tg) (rm := rm) (c := c) (f := f) (y := y) (mc := mc) hs i
      unfold m_X1_bestCopy_L20
      rw [if_neg (show ¬ (6 : Int32) ≤ nI i from nI_ge (b := 6) hi (by decide)), hL]
      simp only [jn2, nm]
      rcases d_mayCopy (fu := FU) hD hW.1 hW.2.1 hf hi with ⟨a1, a2⟩ | ⟨a1, a2⟩
      · have hc' := hW.2.1.add hf hi a1.2.2.1
        have hle := wl_le (n := n) (kd := kd) (tg := tg) (rm := rm) (f := f) hs y (upc c f (c f + 2 ^ i))
        rw [a2, bd_some, if_neg one0, s_turned FU hW.2.1.lt (by omega) hi, bd_some, (tog0 _ (hW.2.1.1 f) i hi a1.2.2.1).1, d_ways hD hW.1 hf 8 y hc' (by omega) (by omega), bd_some]
        by_cases hg : (bcp n kd tg rm lt c f y mc i).2 < wl n kd tg rm lt f y (upc c f (c f + 2 ^ i))
        · rw [if_neg (nI_ge hg (by omega))]
          exact ⟨_, _, _, ⟨by rw [bcp, if_pos ⟨(hmc i).mpr a1, hg⟩], by rw [bcp, if_pos ⟨(hmc i).mpr a1, hg⟩], nI_add i 1⟩, rfl⟩
        · rw [if_pos (nI_le (by omega) (by omega))]
          exact ⟨_, _, _, ⟨by rw [bcp, if_neg (fun h => hg h.2)], by rw [bcp, if_neg (fun h => hg h.2)], nI_add i 1⟩, rfl⟩
      · rw [a2, bd_some, if_pos rfl]
        exact ⟨_, _, _, ⟨by rw [bcp, if_neg (fun h => a1 ((hmc i).mp h.1))], by rw [bcp, if_neg (fun h => a1 ((hmc i).mp h.1))], nI_add i 1⟩, rfl⟩
    · rintro x z w again ⟨rfl, rfl, rfl⟩
      unfold m_X1_bestCopy_L20
      rw [if_pos (show (6 : Int32) ≤ nI 6 by decide)]
  rw [hd]
  have hm : ∃ SM', m_X7_whereOf FU (nI f) (nI y) SM = some ((bcp n kd tg rm lt c f y mc 6).1, SM') ∧ Ex [5, 6, 7] SM SM' := by
    unfold m_X7_whereOf
    obtain ⟨S1, e1, x1⟩ := r_livesOf hM hW.1 hW.2.1 hN hf hy
    rw [e1, bd2_some]
    refine lq4_run (fun o => ∃ SM', o = some ((bcp n kd tg rm lt c f y mc 6).1, SM') ∧ Ex [5, 6, 7] SM SM') 6 (fun i x z w S => x = nI (bcp n kd tg rm lt c f y mc i).2 ∧ z = (bcp n kd tg rm lt c f y mc i).1 ∧ w = nI i ∧ Ex [5, 6, 7] SM S) ?_ ?_ FU 0 _ _ _ _ (by omega) (by have := FU_v; omega) ⟨rfl, rfl, rfl, x1⟩
    · rintro i x z w S again hi ⟨rfl, rfl, rfl, hx⟩
      right
      have hb := bcp_le (n := n) (kd := kd) (tg := tg) (rm := rm) (c := c) (f := f) (y := y) (mc := mc) hs i
      have hAS := hM.ex hx (by decide) (by decide)
      have hNS : Nw S 3 4 n c := hN.ex hx (by decide) (by decide)
      have hon : (1 : Int32) <<< (nI i &&& (31 : Int32)) = nI (2 ^ i) := (nextb i hi).2.1
      unfold m_X7_whereOf_L13
      rw [if_neg (show ¬ (6 : Int32) ≤ nI i from nI_ge (b := 6) hi (by decide))]
      simp only [jn1, jn3, nm]
      rcases r_mayCopy (fu := FU) hAS hW.1 hW.2.1 hNS hf hi FU_100 with ⟨a1, a2⟩ | ⟨a1, a2⟩
      · have hq2 := a1.2.2.1
        have hc' := hW.2.1.add hf hi hq2
        have ho := orb _ (hW.2.1.1 f) i hi hq2
        have hle := wl_le (n := n) (kd := kd) (tg := tg) (rm := rm) (f := f) hs y (upc c f (c f + 2 ^ i))
        rw [a2, bd_some, if_neg one0, inB_nI (show f < 5 by omega) (by decide)]
        simp only [gd_true]
        rw [rd_nI hlt, hNS.1 f hf, hon, ho.1]
        have hA2 : AM (wrA S 3 (nI f) (nI ((c f + 2 ^ i) % 64))) n kd tg rm lt := hAS.ex (xs := [3]) (wr_ex hlt (by decide)) (by decide) (by decide)
        have hN2 : Nw (wrA S 3 (nI f) (nI ((c f + 2 ^ i) % 64))) 3 4 n (upc c f (c f + 2 ^ i)) := by
          refine ⟨fun g hg => ?_, fun g hg => ?_⟩
          · rw [(wr_at hlt).1 g]
            by_cases e : g = f
            · rw [if_pos e, e, upc_s]
            · rw [if_neg e, upc_n e]; exact hNS.1 g hg
          · rw [(wr_at hlt).2.1 4 (by decide), hNS.2 g hg]
            by_cases e : g = f
            · rw [e, upc_s, ho.2]
            · rw [upc_n e]
        obtain ⟨S2, e2, x2⟩ := r_livesOf hA2 hW.1 hc' hN2 hf hy
        rw [e2, bd2_some, rd_nI hlt, x2.2.2 3 (by decide), (wr_at hlt).1 f, if_pos rfl, unbit _ (hW.2.1.1 f) i hi hq2]
        have hx3 : Ex [5, 6, 7] SM (wrA S2 3 (nI f) (nI (c f % 64))) := by
          refine ⟨fun k => ?_, fun k => ?_, fun k hk => ?_⟩
          · rw [(wr_at hlt).2.2.1, x2.1, (wr_at hlt).2.2.1, hx.1]
          · rw [(wr_at hlt).2.2.2, x2.2.1, (wr_at hlt).2.2.2, hx.2.1]
          · by_cases e3 : k = 3
            · subst e3
              funext g
              rw [(wr_at hlt).1 g, x2.2.2 3 (by decide), (wr_at hlt).1 g]
              by_cases e : g = f
              · rw [if_pos e, e, ← hNS.1 f hf, hx.2.2 3 (by decide)]
              · rw [if_neg e, if_neg e, hx.2.2 3 (by decide)]
            · rw [(wr_at hlt).2.1 k e3, x2.2.2 k hk, (wr_at hlt).2.1 k e3, hx.2.2 k hk]
        by_cases hg : (bcp n kd tg rm lt c f y mc i).2 < wl n kd tg rm lt f y (upc c f (c f + 2 ^ i))
        · rw [if_neg (nI_ge hg (by omega)), if_neg (nI_ge hg (by omega))]
          exact ⟨_, _, _, _, ⟨by rw [bcp, if_pos ⟨(hmc i).mpr a1, hg⟩], by rw [bcp, if_pos ⟨(hmc i).mpr a1, hg⟩], nI_add i 1, hx3⟩, rfl⟩
        · rw [if_pos (nI_le (by omega) (by omega)), if_pos (nI_le (by omega) (by omega))]
          exact ⟨_, _, _, _, ⟨by rw [bcp, if_neg (fun h => hg h.2)], by rw [bcp, if_neg (fun h => hg h.2)], nI_add i 1, hx3⟩, rfl⟩
      · rw [a2, bd_some, if_pos rfl]
        exact ⟨_, _, _, _, ⟨by rw [bcp, if_neg (fun h => a1 ((hmc i).mp h.1))], by rw [bcp, if_neg (fun h => a1 ((hmc i).mp h.1))], nI_add i 1, hx⟩, rfl⟩
    · rintro x z w S again ⟨rfl, rfl, rfl, hx⟩
      unfold m_X7_whereOf_L13
      rw [if_pos (show (6 : Int32) ≤ nI 6 by decide)]
      exact ⟨S, rfl, hx⟩
  obtain ⟨S1, e1, x1⟩ := hm
  exact ⟨S1, rfl, e1, x1⟩
theorem op_where {t : Nat} {SD SM : ST} (hR : Rel t SD SM) (x1 x2 : Int32) : ∃ (r : Int32) (SM1 : ST), m_X6_where FU x1 x2 SD = some r ∧ m_X7_where FU x1 x2 SM = some (r, SM1) ∧ Rel (t + 1) SD SM1 := by
  have hup := hR.up
  obtain ⟨pn, n, kd, tg, rm, lt, c, am, lr, su, mv, hP, hA, hC, hS, hI⟩ := hR
  have hn := hA.1.1.1
  unfold m_X6_where m_X7_where
  rcases has_cases FU hn hA.2.1.1 hA.2.2.1.1 x1 with ⟨h1, h2, -⟩ | ⟨f, hf, rfl, h1, h2⟩
  · rw [h1, h2]; exact ⟨_, _, rfl, rfl, hup⟩
  rw [h1, h2, bd_some, bd_some, if_neg one0, if_neg one0]
  rcases in_0_4 FU x2 with ⟨h3, h4⟩ | ⟨y, hy, rfl, h3, h4⟩
  · rw [h3, h4]; exact ⟨_, _, rfl, rfl, hup⟩
  rw [h3, h4, bd_some, bd_some, if_neg one0, if_neg one0]
  obtain ⟨r, S1, e1, e2, x1⟩ := where_both hA hf hy
  rw [e1, e2]
  exact ⟨r, S1, rfl, rfl, hup.sc (x1.sc (by decide))⟩
