/-! the pure state of a system: its ints, its rows, its longs, by number -/
abbrev ST : Type := (Nat → Int32) × (Nat → Nat → Int32) × (Nat → Int64)
def stI (S : ST) (k : Nat) : Int32 := S.1 k
def stR (S : ST) (k : Nat) : Nat → Int32 := S.2.1 k
def stL (S : ST) (k : Nat) : Int64 := S.2.2 k
def puI (S : ST) (k : Nat) (v : Int32) : ST := (fun j => if j = k then v else S.1 j, S.2.1, S.2.2)
def puR (S : ST) (k : Nat) (f : Nat → Int32) : ST := (S.1, fun j => if j = k then f else S.2.1 j, S.2.2)
def puL (S : ST) (k : Nat) (v : Int64) : ST := (S.1, S.2.1, fun j => if j = k then v else S.2.2 j)
def rdA (S : ST) (k : Nat) (i : Int32) : Int32 := stR S k i.toNatClampNeg
def wrA (S : ST) (k : Nat) (i x : Int32) : ST := puR S k (upd (stR S k) i.toNatClampNeg x)
def inB (i : Int32) (n : Nat) : Bool := decide (0 ≤ i.toInt) && decide (i.toInt < n)
theorem inB_vp {i : Int32} {n : Nat} (h : inB i n = true) : vp_in i n := by
  simp only [inB, Bool.and_eq_true, decide_eq_true_eq] at h
  exact vp_in_iff.mpr h
def zB (v : Int32) : Bool := decide (v = 0) || decide (v = 1)
theorem zB_nar {v : Int32} (h : zB v = true) : narrow .boolean (.int v) = .int v := by
  simp only [zB, Bool.or_eq_true, decide_eq_true_eq] at h
  rcases h with rfl | rfl <;> rfl
/-! words of the pure programs -/
def nm {α β : Type} (a : α) (f : α → β) : β := f a
theorem nm_at {α β : Type} {a x : α} {f : α → Option β} {o : β} (e : x = a) (h : nm a f = some o) : f x = some o := by subst e; exact h
def bd {α β : Type} (o : Option α) (f : α → Option β) : Option β := match o with
  | none => none
  | some v => f v
theorem bd_at {α β : Type} {o : Option α} {f : α → Option β} {r : β} (h : bd o f = some r) : ∃ v, o = some v ∧ f v = some r := by
  cases o with
  | none => cases h
  | some v => exact ⟨v, rfl, h⟩
theorem bd_some {α β : Type} {v : α} {f : α → Option β} : bd (some v) f = f v := rfl
def bd2 {α γ β : Type} (o : Option (α × γ)) (f : α → γ → Option β) : Option β := match o with
  | none => none
  | some v => f v.1 v.2
theorem bd2_at {α γ β : Type} {o : Option (α × γ)} {f : α → γ → Option β} {r : β} (h : bd2 o f = some r) : ∃ v w, o = some (v, w) ∧ f v w = some r := by
  cases o with
  | none => cases h
  | some v => exact ⟨v.1, v.2, rfl, h⟩
theorem bd2_some {α γ β : Type} {v : α} {w : γ} {f : α → γ → Option β} : bd2 (some (v, w)) f = f v w := rfl
def gd {β : Type} (b : Bool) (k : Option β) : Option β := match b with
  | true => k
  | false => none
theorem gd_at {β : Type} {b : Bool} {k : Option β} {r : β} (h : gd b k = some r) : b = true ∧ k = some r := by
  cases b with
  | true => exact ⟨rfl, h⟩
  | false => cases h
theorem gd_true {β : Type} {k : Option β} : gd true k = k := rfl
theorem if_at_t {β : Type} {c : Prop} {_ : Decidable c} {t f : Option β} {r : β} (hc : c) (h : (if c then t else f) = some r) : t = some r := by rw [if_pos hc] at h; exact h
theorem if_at_f {β : Type} {c : Prop} {_ : Decidable c} {t f : Option β} {r : β} (hc : ¬ c) (h : (if c then t else f) = some r) : f = some r := by rw [if_neg hc] at h; exact h
theorem so_at {β : Type} {v r : β} (h : some v = some r) : v = r := Option.some.inj h
theorem so_at2 {α β : Type} {v r : α} {w q : β} (h : some (v, w) = some (r, q)) : v = r ∧ w = q := by cases h; exact ⟨rfl, rfl⟩
def lq0 {ρ : Type} (body : (Option ρ) → Option ρ) : Nat → Option ρ
  | 0 => none
  | n + 1 => body (lq0 body n)
theorem lq0_ok {ρ : Type} {body : (Option ρ) → Option ρ} {out : ρ} (P : Prop) (hb : ∀ again : Option ρ, (again = some out → P) → body again = some out → P) : ∀ (n : Nat) , lq0 body n = some out → P
  | 0, h => by simp [lq0] at h
  | n + 1, h => hb (lq0 body n) (lq0_ok P hb n)  h
theorem lq0_s {ρ : Type} (body : (Option ρ) → Option ρ) (n : Nat) : lq0 body (n + 1) = body (lq0 body n) := rfl
def jn0 {ρ : Type} (k : Option ρ) (body : (Option ρ) → Option ρ) : Option ρ := body k
theorem jn0_ok {ρ : Type} {k : Option ρ} {body : (Option ρ) → Option ρ} {out : ρ} {G : Prop} (P : Prop) (hk : k = some out → P) (hb : ∀ j : Option ρ, (j = some out → P) → body j = some out → G) (h : jn0 k body = some out) : G := hb k hk h
def lq1 {α0 ρ : Type} (body : (α0 → Option ρ) → α0 → Option ρ) : Nat → α0 → Option ρ
  | 0, _ => none
  | n + 1, x0 => body (lq1 body n) x0
theorem lq1_ok {α0 ρ : Type} {body : (α0 → Option ρ) → α0 → Option ρ} {out : ρ} (P : α0 → Prop) (hb : ∀ again : α0 → Option ρ, (∀ (x0 : α0) , again x0 = some out → P x0) → ∀ (x0 : α0) , body again x0 = some out → P x0) : ∀ (n : Nat) (x0 : α0) , lq1 body n x0 = some out → P x0
  | 0, _, h => by simp [lq1] at h
  | n + 1, x0, h => hb (lq1 body n) (lq1_ok P hb n) x0 h
theorem lq1_s {α0 ρ : Type} (body : (α0 → Option ρ) → α0 → Option ρ) (n : Nat) (x0 : α0) : lq1 body (n + 1) x0 = body (lq1 body n) x0 := rfl
def jn1 {α0 ρ : Type} (k : α0 → Option ρ) (body : (α0 → Option ρ) → Option ρ) : Option ρ := body k
theorem jn1_ok {α0 ρ : Type} {k : α0 → Option ρ} {body : (α0 → Option ρ) → Option ρ} {out : ρ} {G : Prop} (P : α0 → Prop) (hk : ∀ (x0 : α0) , k x0 = some out → P x0) (hb : ∀ j : α0 → Option ρ, (∀ (x0 : α0) , j x0 = some out → P x0) → body j = some out → G) (h : jn1 k body = some out) : G := hb k hk h
def lq2 {α0 α1 ρ : Type} (body : (α0 → α1 → Option ρ) → α0 → α1 → Option ρ) : Nat → α0 → α1 → Option ρ
  | 0, _, _ => none
  | n + 1, x0, x1 => body (lq2 body n) x0 x1
theorem lq2_ok {α0 α1 ρ : Type} {body : (α0 → α1 → Option ρ) → α0 → α1 → Option ρ} {out : ρ} (P : α0 → α1 → Prop) (hb : ∀ again : α0 → α1 → Option ρ, (∀ (x0 : α0) (x1 : α1) , again x0 x1 = some out → P x0 x1) → ∀ (x0 : α0) (x1 : α1) , body again x0 x1 = some out → P x0 x1) : ∀ (n : Nat) (x0 : α0) (x1 : α1) , lq2 body n x0 x1 = some out → P x0 x1
  | 0, _, _, h => by simp [lq2] at h
  | n + 1, x0, x1, h => hb (lq2 body n) (lq2_ok P hb n) x0 x1 h
theorem lq2_s {α0 α1 ρ : Type} (body : (α0 → α1 → Option ρ) → α0 → α1 → Option ρ) (n : Nat) (x0 : α0) (x1 : α1) : lq2 body (n + 1) x0 x1 = body (lq2 body n) x0 x1 := rfl
def jn2 {α0 α1 ρ : Type} (k : α0 → α1 → Option ρ) (body : (α0 → α1 → Option ρ) → Option ρ) : Option ρ := body k
theorem jn2_ok {α0 α1 ρ : Type} {k : α0 → α1 → Option ρ} {body : (α0 → α1 → Option ρ) → Option ρ} {out : ρ} {G : Prop} (P : α0 → α1 → Prop) (hk : ∀ (x0 : α0) (x1 : α1) , k x0 x1 = some out → P x0 x1) (hb : ∀ j : α0 → α1 → Option ρ, (∀ (x0 : α0) (x1 : α1) , j x0 x1 = some out → P x0 x1) → body j = some out → G) (h : jn2 k body = some out) : G := hb k hk h
def lq3 {α0 α1 α2 ρ : Type} (body : (α0 → α1 → α2 → Option ρ) → α0 → α1 → α2 → Option ρ) : Nat → α0 → α1 → α2 → Option ρ
  | 0, _, _, _ => none
  | n + 1, x0, x1, x2 => body (lq3 body n) x0 x1 x2
theorem lq3_ok {α0 α1 α2 ρ : Type} {body : (α0 → α1 → α2 → Option ρ) → α0 → α1 → α2 → Option ρ} {out : ρ} (P : α0 → α1 → α2 → Prop) (hb : ∀ again : α0 → α1 → α2 → Option ρ, (∀ (x0 : α0) (x1 : α1) (x2 : α2) , again x0 x1 x2 = some out → P x0 x1 x2) → ∀ (x0 : α0) (x1 : α1) (x2 : α2) , body again x0 x1 x2 = some out → P x0 x1 x2) : ∀ (n : Nat) (x0 : α0) (x1 : α1) (x2 : α2) , lq3 body n x0 x1 x2 = some out → P x0 x1 x2
  | 0, _, _, _, h => by simp [lq3] at h
  | n + 1, x0, x1, x2, h => hb (lq3 body n) (lq3_ok P hb n) x0 x1 x2 h
theorem lq3_s {α0 α1 α2 ρ : Type} (body : (α0 → α1 → α2 → Option ρ) → α0 → α1 → α2 → Option ρ) (n : Nat) (x0 : α0) (x1 : α1) (x2 : α2) : lq3 body (n + 1) x0 x1 x2 = body (lq3 body n) x0 x1 x2 := rfl
def jn3 {α0 α1 α2 ρ : Type} (k : α0 → α1 → α2 → Option ρ) (body : (α0 → α1 → α2 → Option ρ) → Option ρ) : Option ρ := body k
theorem jn3_ok {α0 α1 α2 ρ : Type} {k : α0 → α1 → α2 → Option ρ} {body : (α0 → α1 → α2 → Option ρ) → Option ρ} {out : ρ} {G : Prop} (P : α0 → α1 → α2 → Prop) (hk : ∀ (x0 : α0) (x1 : α1) (x2 : α2) , k x0 x1 x2 = some out → P x0 x1 x2) (hb : ∀ j : α0 → α1 → α2 → Option ρ, (∀ (x0 : α0) (x1 : α1) (x2 : α2) , j x0 x1 x2 = some out → P x0 x1 x2) → body j = some out → G) (h : jn3 k body = some out) : G := hb k hk h
def lq4 {α0 α1 α2 α3 ρ : Type} (body : (α0 → α1 → α2 → α3 → Option ρ) → α0 → α1 → α2 → α3 → Option ρ) : Nat → α0 → α1 → α2 → α3 → Option ρ
  | 0, _, _, _, _ => none
  | n + 1, x0, x1, x2, x3 => body (lq4 body n) x0 x1 x2 x3
theorem lq4_ok {α0 α1 α2 α3 ρ : Type} {body : (α0 → α1 → α2 → α3 → Option ρ) → α0 → α1 → α2 → α3 → Option ρ} {out : ρ} (P : α0 → α1 → α2 → α3 → Prop) (hb : ∀ again : α0 → α1 → α2 → α3 → Option ρ, (∀ (x0 : α0) (x1 : α1) (x2 : α2) (x3 : α3) , again x0 x1 x2 x3 = some out → P x0 x1 x2 x3) → ∀ (x0 : α0) (x1 : α1) (x2 : α2) (x3 : α3) , body again x0 x1 x2 x3 = some out → P x0 x1 x2 x3) : ∀ (n : Nat) (x0 : α0) (x1 : α1) (x2 : α2) (x3 : α3) , lq4 body n x0 x1 x2 x3 = some out → P x0 x1 x2 x3
  | 0, _, _, _, _, h => by simp [lq4] at h
  | n + 1, x0, x1, x2, x3, h => hb (lq4 body n) (lq4_ok P hb n) x0 x1 x2 x3 h
theorem lq4_s {α0 α1 α2 α3 ρ : Type} (body : (α0 → α1 → α2 → α3 → Option ρ) → α0 → α1 → α2 → α3 → Option ρ) (n : Nat) (x0 : α0) (x1 : α1) (x2 : α2) (x3 : α3) : lq4 body (n + 1) x0 x1 x2 x3 = body (lq4 body n) x0 x1 x2 x3 := rfl
def jn4 {α0 α1 α2 α3 ρ : Type} (k : α0 → α1 → α2 → α3 → Option ρ) (body : (α0 → α1 → α2 → α3 → Option ρ) → Option ρ) : Option ρ := body k
theorem jn4_ok {α0 α1 α2 α3 ρ : Type} {k : α0 → α1 → α2 → α3 → Option ρ} {body : (α0 → α1 → α2 → α3 → Option ρ) → Option ρ} {out : ρ} {G : Prop} (P : α0 → α1 → α2 → α3 → Prop) (hk : ∀ (x0 : α0) (x1 : α1) (x2 : α2) (x3 : α3) , k x0 x1 x2 x3 = some out → P x0 x1 x2 x3) (hb : ∀ j : α0 → α1 → α2 → α3 → Option ρ, (∀ (x0 : α0) (x1 : α1) (x2 : α2) (x3 : α3) , j x0 x1 x2 x3 = some out → P x0 x1 x2 x3) → body j = some out → G) (h : jn4 k body = some out) : G := hb k hk h
def lq5 {α0 α1 α2 α3 α4 ρ : Type} (body : (α0 → α1 → α2 → α3 → α4 → Option ρ) → α0 → α1 → α2 → α3 → α4 → Option ρ) : Nat → α0 → α1 → α2 → α3 → α4 → Option ρ
  | 0, _, _, _, _, _ => none
  | n + 1, x0, x1, x2, x3, x4 => body (lq5 body n) x0 x1 x2 x3 x4
theorem lq5_ok {α0 α1 α2 α3 α4 ρ : Type} {body : (α0 → α1 → α2 → α3 → α4 → Option ρ) → α0 → α1 → α2 → α3 → α4 → Option ρ} {out : ρ} (P : α0 → α1 → α2 → α3 → α4 → Prop) (hb : ∀ again : α0 → α1 → α2 → α3 → α4 → Option ρ, (∀ (x0 : α0) (x1 : α1) (x2 : α2) (x3 : α3) (x4 : α4) , again x0 x1 x2 x3 x4 = some out → P x0 x1 x2 x3 x4) → ∀ (x0 : α0) (x1 : α1) (x2 : α2) (x3 : α3) (x4 : α4) , body again x0 x1 x2 x3 x4 = some out → P x0 x1 x2 x3 x4) : ∀ (n : Nat) (x0 : α0) (x1 : α1) (x2 : α2) (x3 : α3) (x4 : α4) , lq5 body n x0 x1 x2 x3 x4 = some out → P x0 x1 x2 x3 x4
  | 0, _, _, _, _, _, h => by simp [lq5] at h
  | n + 1, x0, x1, x2, x3, x4, h => hb (lq5 body n) (lq5_ok P hb n) x0 x1 x2 x3 x4 h
theorem lq5_s {α0 α1 α2 α3 α4 ρ : Type} (body : (α0 → α1 → α2 → α3 → α4 → Option ρ) → α0 → α1 → α2 → α3 → α4 → Option ρ) (n : Nat) (x0 : α0) (x1 : α1) (x2 : α2) (x3 : α3) (x4 : α4) : lq5 body (n + 1) x0 x1 x2 x3 x4 = body (lq5 body n) x0 x1 x2 x3 x4 := rfl
def jn5 {α0 α1 α2 α3 α4 ρ : Type} (k : α0 → α1 → α2 → α3 → α4 → Option ρ) (body : (α0 → α1 → α2 → α3 → α4 → Option ρ) → Option ρ) : Option ρ := body k
theorem jn5_ok {α0 α1 α2 α3 α4 ρ : Type} {k : α0 → α1 → α2 → α3 → α4 → Option ρ} {body : (α0 → α1 → α2 → α3 → α4 → Option ρ) → Option ρ} {out : ρ} {G : Prop} (P : α0 → α1 → α2 → α3 → α4 → Prop) (hk : ∀ (x0 : α0) (x1 : α1) (x2 : α2) (x3 : α3) (x4 : α4) , k x0 x1 x2 x3 x4 = some out → P x0 x1 x2 x3 x4) (hb : ∀ j : α0 → α1 → α2 → α3 → α4 → Option ρ, (∀ (x0 : α0) (x1 : α1) (x2 : α2) (x3 : α3) (x4 : α4) , j x0 x1 x2 x3 x4 = some out → P x0 x1 x2 x3 x4) → body j = some out → G) (h : jn5 k body = some out) : G := hb k hk h
def lq6 {α0 α1 α2 α3 α4 α5 ρ : Type} (body : (α0 → α1 → α2 → α3 → α4 → α5 → Option ρ) → α0 → α1 → α2 → α3 → α4 → α5 → Option ρ) : Nat → α0 → α1 → α2 → α3 → α4 → α5 → Option ρ
  | 0, _, _, _, _, _, _ => none
  | n + 1, x0, x1, x2, x3, x4, x5 => body (lq6 body n) x0 x1 x2 x3 x4 x5
theorem lq6_ok {α0 α1 α2 α3 α4 α5 ρ : Type} {body : (α0 → α1 → α2 → α3 → α4 → α5 → Option ρ) → α0 → α1 → α2 → α3 → α4 → α5 → Option ρ} {out : ρ} (P : α0 → α1 → α2 → α3 → α4 → α5 → Prop) (hb : ∀ again : α0 → α1 → α2 → α3 → α4 → α5 → Option ρ, (∀ (x0 : α0) (x1 : α1) (x2 : α2) (x3 : α3) (x4 : α4) (x5 : α5) , again x0 x1 x2 x3 x4 x5 = some out → P x0 x1 x2 x3 x4 x5) → ∀ (x0 : α0) (x1 : α1) (x2 : α2) (x3 : α3) (x4 : α4) (x5 : α5) , body again x0 x1 x2 x3 x4 x5 = some out → P x0 x1 x2 x3 x4 x5) : ∀ (n : Nat) (x0 : α0) (x1 : α1) (x2 : α2) (x3 : α3) (x4 : α4) (x5 : α5) , lq6 body n x0 x1 x2 x3 x4 x5 = some out → P x0 x1 x2 x3 x4 x5
  | 0, _, _, _, _, _, _, h => by simp [lq6] at h
  | n + 1, x0, x1, x2, x3, x4, x5, h => hb (lq6 body n) (lq6_ok P hb n) x0 x1 x2 x3 x4 x5 h
theorem lq6_s {α0 α1 α2 α3 α4 α5 ρ : Type} (body : (α0 → α1 → α2 → α3 → α4 → α5 → Option ρ) → α0 → α1 → α2 → α3 → α4 → α5 → Option ρ) (n : Nat) (x0 : α0) (x1 : α1) (x2 : α2) (x3 : α3) (x4 : α4) (x5 : α5) : lq6 body (n + 1) x0 x1 x2 x3 x4 x5 = body (lq6 body n) x0 x1 x2 x3 x4 x5 := rfl
def jn6 {α0 α1 α2 α3 α4 α5 ρ : Type} (k : α0 → α1 → α2 → α3 → α4 → α5 → Option ρ) (body : (α0 → α1 → α2 → α3 → α4 → α5 → Option ρ) → Option ρ) : Option ρ := body k
theorem jn6_ok {α0 α1 α2 α3 α4 α5 ρ : Type} {k : α0 → α1 → α2 → α3 → α4 → α5 → Option ρ} {body : (α0 → α1 → α2 → α3 → α4 → α5 → Option ρ) → Option ρ} {out : ρ} {G : Prop} (P : α0 → α1 → α2 → α3 → α4 → α5 → Prop) (hk : ∀ (x0 : α0) (x1 : α1) (x2 : α2) (x3 : α3) (x4 : α4) (x5 : α5) , k x0 x1 x2 x3 x4 x5 = some out → P x0 x1 x2 x3 x4 x5) (hb : ∀ j : α0 → α1 → α2 → α3 → α4 → α5 → Option ρ, (∀ (x0 : α0) (x1 : α1) (x2 : α2) (x3 : α3) (x4 : α4) (x5 : α5) , j x0 x1 x2 x3 x4 x5 = some out → P x0 x1 x2 x3 x4 x5) → body j = some out → G) (h : jn6 k body = some out) : G := hb k hk h
def lq7 {α0 α1 α2 α3 α4 α5 α6 ρ : Type} (body : (α0 → α1 → α2 → α3 → α4 → α5 → α6 → Option ρ) → α0 → α1 → α2 → α3 → α4 → α5 → α6 → Option ρ) : Nat → α0 → α1 → α2 → α3 → α4 → α5 → α6 → Option ρ
  | 0, _, _, _, _, _, _, _ => none
  | n + 1, x0, x1, x2, x3, x4, x5, x6 => body (lq7 body n) x0 x1 x2 x3 x4 x5 x6
theorem lq7_ok {α0 α1 α2 α3 α4 α5 α6 ρ : Type} {body : (α0 → α1 → α2 → α3 → α4 → α5 → α6 → Option ρ) → α0 → α1 → α2 → α3 → α4 → α5 → α6 → Option ρ} {out : ρ} (P : α0 → α1 → α2 → α3 → α4 → α5 → α6 → Prop) (hb : ∀ again : α0 → α1 → α2 → α3 → α4 → α5 → α6 → Option ρ, (∀ (x0 : α0) (x1 : α1) (x2 : α2) (x3 : α3) (x4 : α4) (x5 : α5) (x6 : α6) , again x0 x1 x2 x3 x4 x5 x6 = some out → P x0 x1 x2 x3 x4 x5 x6) → ∀ (x0 : α0) (x1 : α1) (x2 : α2) (x3 : α3) (x4 : α4) (x5 : α5) (x6 : α6) , body again x0 x1 x2 x3 x4 x5 x6 = some out → P x0 x1 x2 x3 x4 x5 x6) : ∀ (n : Nat) (x0 : α0) (x1 : α1) (x2 : α2) (x3 : α3) (x4 : α4) (x5 : α5) (x6 : α6) , lq7 body n x0 x1 x2 x3 x4 x5 x6 = some out → P x0 x1 x2 x3 x4 x5 x6
  | 0, _, _, _, _, _, _, _, h => by simp [lq7] at h
  | n + 1, x0, x1, x2, x3, x4, x5, x6, h => hb (lq7 body n) (lq7_ok P hb n) x0 x1 x2 x3 x4 x5 x6 h
theorem lq7_s {α0 α1 α2 α3 α4 α5 α6 ρ : Type} (body : (α0 → α1 → α2 → α3 → α4 → α5 → α6 → Option ρ) → α0 → α1 → α2 → α3 → α4 → α5 → α6 → Option ρ) (n : Nat) (x0 : α0) (x1 : α1) (x2 : α2) (x3 : α3) (x4 : α4) (x5 : α5) (x6 : α6) : lq7 body (n + 1) x0 x1 x2 x3 x4 x5 x6 = body (lq7 body n) x0 x1 x2 x3 x4 x5 x6 := rfl
def jn7 {α0 α1 α2 α3 α4 α5 α6 ρ : Type} (k : α0 → α1 → α2 → α3 → α4 → α5 → α6 → Option ρ) (body : (α0 → α1 → α2 → α3 → α4 → α5 → α6 → Option ρ) → Option ρ) : Option ρ := body k
theorem jn7_ok {α0 α1 α2 α3 α4 α5 α6 ρ : Type} {k : α0 → α1 → α2 → α3 → α4 → α5 → α6 → Option ρ} {body : (α0 → α1 → α2 → α3 → α4 → α5 → α6 → Option ρ) → Option ρ} {out : ρ} {G : Prop} (P : α0 → α1 → α2 → α3 → α4 → α5 → α6 → Prop) (hk : ∀ (x0 : α0) (x1 : α1) (x2 : α2) (x3 : α3) (x4 : α4) (x5 : α5) (x6 : α6) , k x0 x1 x2 x3 x4 x5 x6 = some out → P x0 x1 x2 x3 x4 x5 x6) (hb : ∀ j : α0 → α1 → α2 → α3 → α4 → α5 → α6 → Option ρ, (∀ (x0 : α0) (x1 : α1) (x2 : α2) (x3 : α3) (x4 : α4) (x5 : α5) (x6 : α6) , j x0 x1 x2 x3 x4 x5 x6 = some out → P x0 x1 x2 x3 x4 x5 x6) → body j = some out → G) (h : jn7 k body = some out) : G := hb k hk h
def lq8 {α0 α1 α2 α3 α4 α5 α6 α7 ρ : Type} (body : (α0 → α1 → α2 → α3 → α4 → α5 → α6 → α7 → Option ρ) → α0 → α1 → α2 → α3 → α4 → α5 → α6 → α7 → Option ρ) : Nat → α0 → α1 → α2 → α3 → α4 → α5 → α6 → α7 → Option ρ
  | 0, _, _, _, _, _, _, _, _ => none
  | n + 1, x0, x1, x2, x3, x4, x5, x6, x7 => body (lq8 body n) x0 x1 x2 x3 x4 x5 x6 x7
theorem lq8_ok {α0 α1 α2 α3 α4 α5 α6 α7 ρ : Type} {body : (α0 → α1 → α2 → α3 → α4 → α5 → α6 → α7 → Option ρ) → α0 → α1 → α2 → α3 → α4 → α5 → α6 → α7 → Option ρ} {out : ρ} (P : α0 → α1 → α2 → α3 → α4 → α5 → α6 → α7 → Prop) (hb : ∀ again : α0 → α1 → α2 → α3 → α4 → α5 → α6 → α7 → Option ρ, (∀ (x0 : α0) (x1 : α1) (x2 : α2) (x3 : α3) (x4 : α4) (x5 : α5) (x6 : α6) (x7 : α7) , again x0 x1 x2 x3 x4 x5 x6 x7 = some out → P x0 x1 x2 x3 x4 x5 x6 x7) → ∀ (x0 : α0) (x1 : α1) (x2 : α2) (x3 : α3) (x4 : α4) (x5 : α5) (x6 : α6) (x7 : α7) , body again x0 x1 x2 x3 x4 x5 x6 x7 = some out → P x0 x1 x2 x3 x4 x5 x6 x7) : ∀ (n : Nat) (x0 : α0) (x1 : α1) (x2 : α2) (x3 : α3) (x4 : α4) (x5 : α5) (x6 : α6) (x7 : α7) , lq8 body n x0 x1 x2 x3 x4 x5 x6 x7 = some out → P x0 x1 x2 x3 x4 x5 x6 x7
  | 0, _, _, _, _, _, _, _, _, h => by simp [lq8] at h
  | n + 1, x0, x1, x2, x3, x4, x5, x6, x7, h => hb (lq8 body n) (lq8_ok P hb n) x0 x1 x2 x3 x4 x5 x6 x7 h
theorem lq8_s {α0 α1 α2 α3 α4 α5 α6 α7 ρ : Type} (body : (α0 → α1 → α2 → α3 → α4 → α5 → α6 → α7 → Option ρ) → α0 → α1 → α2 → α3 → α4 → α5 → α6 → α7 → Option ρ) (n : Nat) (x0 : α0) (x1 : α1) (x2 : α2) (x3 : α3) (x4 : α4) (x5 : α5) (x6 : α6) (x7 : α7) : lq8 body (n + 1) x0 x1 x2 x3 x4 x5 x6 x7 = body (lq8 body n) x0 x1 x2 x3 x4 x5 x6 x7 := rfl
def jn8 {α0 α1 α2 α3 α4 α5 α6 α7 ρ : Type} (k : α0 → α1 → α2 → α3 → α4 → α5 → α6 → α7 → Option ρ) (body : (α0 → α1 → α2 → α3 → α4 → α5 → α6 → α7 → Option ρ) → Option ρ) : Option ρ := body k
theorem jn8_ok {α0 α1 α2 α3 α4 α5 α6 α7 ρ : Type} {k : α0 → α1 → α2 → α3 → α4 → α5 → α6 → α7 → Option ρ} {body : (α0 → α1 → α2 → α3 → α4 → α5 → α6 → α7 → Option ρ) → Option ρ} {out : ρ} {G : Prop} (P : α0 → α1 → α2 → α3 → α4 → α5 → α6 → α7 → Prop) (hk : ∀ (x0 : α0) (x1 : α1) (x2 : α2) (x3 : α3) (x4 : α4) (x5 : α5) (x6 : α6) (x7 : α7) , k x0 x1 x2 x3 x4 x5 x6 x7 = some out → P x0 x1 x2 x3 x4 x5 x6 x7) (hb : ∀ j : α0 → α1 → α2 → α3 → α4 → α5 → α6 → α7 → Option ρ, (∀ (x0 : α0) (x1 : α1) (x2 : α2) (x3 : α3) (x4 : α4) (x5 : α5) (x6 : α6) (x7 : α7) , j x0 x1 x2 x3 x4 x5 x6 x7 = some out → P x0 x1 x2 x3 x4 x5 x6 x7) → body j = some out → G) (h : jn8 k body = some out) : G := hb k hk h
def lq9 {α0 α1 α2 α3 α4 α5 α6 α7 α8 ρ : Type} (body : (α0 → α1 → α2 → α3 → α4 → α5 → α6 → α7 → α8 → Option ρ) → α0 → α1 → α2 → α3 → α4 → α5 → α6 → α7 → α8 → Option ρ) : Nat → α0 → α1 → α2 → α3 → α4 → α5 → α6 → α7 → α8 → Option ρ
  | 0, _, _, _, _, _, _, _, _, _ => none
  | n + 1, x0, x1, x2, x3, x4, x5, x6, x7, x8 => body (lq9 body n) x0 x1 x2 x3 x4 x5 x6 x7 x8
theorem lq9_ok {α0 α1 α2 α3 α4 α5 α6 α7 α8 ρ : Type} {body : (α0 → α1 → α2 → α3 → α4 → α5 → α6 → α7 → α8 → Option ρ) → α0 → α1 → α2 → α3 → α4 → α5 → α6 → α7 → α8 → Option ρ} {out : ρ} (P : α0 → α1 → α2 → α3 → α4 → α5 → α6 → α7 → α8 → Prop) (hb : ∀ again : α0 → α1 → α2 → α3 → α4 → α5 → α6 → α7 → α8 → Option ρ, (∀ (x0 : α0) (x1 : α1) (x2 : α2) (x3 : α3) (x4 : α4) (x5 : α5) (x6 : α6) (x7 : α7) (x8 : α8) , again x0 x1 x2 x3 x4 x5 x6 x7 x8 = some out → P x0 x1 x2 x3 x4 x5 x6 x7 x8) → ∀ (x0 : α0) (x1 : α1) (x2 : α2) (x3 : α3) (x4 : α4) (x5 : α5) (x6 : α6) (x7 : α7) (x8 : α8) , body again x0 x1 x2 x3 x4 x5 x6 x7 x8 = some out → P x0 x1 x2 x3 x4 x5 x6 x7 x8) : ∀ (n : Nat) (x0 : α0) (x1 : α1) (x2 : α2) (x3 : α3) (x4 : α4) (x5 : α5) (x6 : α6) (x7 : α7) (x8 : α8) , lq9 body n x0 x1 x2 x3 x4 x5 x6 x7 x8 = some out → P x0 x1 x2 x3 x4 x5 x6 x7 x8
  | 0, _, _, _, _, _, _, _, _, _, h => by simp [lq9] at h
  | n + 1, x0, x1, x2, x3, x4, x5, x6, x7, x8, h => hb (lq9 body n) (lq9_ok P hb n) x0 x1 x2 x3 x4 x5 x6 x7 x8 h
theorem lq9_s {α0 α1 α2 α3 α4 α5 α6 α7 α8 ρ : Type} (body : (α0 → α1 → α2 → α3 → α4 → α5 → α6 → α7 → α8 → Option ρ) → α0 → α1 → α2 → α3 → α4 → α5 → α6 → α7 → α8 → Option ρ) (n : Nat) (x0 : α0) (x1 : α1) (x2 : α2) (x3 : α3) (x4 : α4) (x5 : α5) (x6 : α6) (x7 : α7) (x8 : α8) : lq9 body (n + 1) x0 x1 x2 x3 x4 x5 x6 x7 x8 = body (lq9 body n) x0 x1 x2 x3 x4 x5 x6 x7 x8 := rfl
def jn9 {α0 α1 α2 α3 α4 α5 α6 α7 α8 ρ : Type} (k : α0 → α1 → α2 → α3 → α4 → α5 → α6 → α7 → α8 → Option ρ) (body : (α0 → α1 → α2 → α3 → α4 → α5 → α6 → α7 → α8 → Option ρ) → Option ρ) : Option ρ := body k
theorem jn9_ok {α0 α1 α2 α3 α4 α5 α6 α7 α8 ρ : Type} {k : α0 → α1 → α2 → α3 → α4 → α5 → α6 → α7 → α8 → Option ρ} {body : (α0 → α1 → α2 → α3 → α4 → α5 → α6 → α7 → α8 → Option ρ) → Option ρ} {out : ρ} {G : Prop} (P : α0 → α1 → α2 → α3 → α4 → α5 → α6 → α7 → α8 → Prop) (hk : ∀ (x0 : α0) (x1 : α1) (x2 : α2) (x3 : α3) (x4 : α4) (x5 : α5) (x6 : α6) (x7 : α7) (x8 : α8) , k x0 x1 x2 x3 x4 x5 x6 x7 x8 = some out → P x0 x1 x2 x3 x4 x5 x6 x7 x8) (hb : ∀ j : α0 → α1 → α2 → α3 → α4 → α5 → α6 → α7 → α8 → Option ρ, (∀ (x0 : α0) (x1 : α1) (x2 : α2) (x3 : α3) (x4 : α4) (x5 : α5) (x6 : α6) (x7 : α7) (x8 : α8) , j x0 x1 x2 x3 x4 x5 x6 x7 x8 = some out → P x0 x1 x2 x3 x4 x5 x6 x7 x8) → body j = some out → G) (h : jn9 k body = some out) : G := hb k hk h
def lq10 {α0 α1 α2 α3 α4 α5 α6 α7 α8 α9 ρ : Type} (body : (α0 → α1 → α2 → α3 → α4 → α5 → α6 → α7 → α8 → α9 → Option ρ) → α0 → α1 → α2 → α3 → α4 → α5 → α6 → α7 → α8 → α9 → Option ρ) : Nat → α0 → α1 → α2 → α3 → α4 → α5 → α6 → α7 → α8 → α9 → Option ρ
  | 0, _, _, _, _, _, _, _, _, _, _ => none
  | n + 1, x0, x1, x2, x3, x4, x5, x6, x7, x8, x9 => body (lq10 body n) x0 x1 x2 x3 x4 x5 x6 x7 x8 x9
theorem lq10_ok {α0 α1 α2 α3 α4 α5 α6 α7 α8 α9 ρ : Type} {body : (α0 → α1 → α2 → α3 → α4 → α5 → α6 → α7 → α8 → α9 → Option ρ) → α0 → α1 → α2 → α3 → α4 → α5 → α6 → α7 → α8 → α9 → Option ρ} {out : ρ} (P : α0 → α1 → α2 → α3 → α4 → α5 → α6 → α7 → α8 → α9 → Prop) (hb : ∀ again : α0 → α1 → α2 → α3 → α4 → α5 → α6 → α7 → α8 → α9 → Option ρ, (∀ (x0 : α0) (x1 : α1) (x2 : α2) (x3 : α3) (x4 : α4) (x5 : α5) (x6 : α6) (x7 : α7) (x8 : α8) (x9 : α9) , again x0 x1 x2 x3 x4 x5 x6 x7 x8 x9 = some out → P x0 x1 x2 x3 x4 x5 x6 x7 x8 x9) → ∀ (x0 : α0) (x1 : α1) (x2 : α2) (x3 : α3) (x4 : α4) (x5 : α5) (x6 : α6) (x7 : α7) (x8 : α8) (x9 : α9) , body again x0 x1 x2 x3 x4 x5 x6 x7 x8 x9 = some out → P x0 x1 x2 x3 x4 x5 x6 x7 x8 x9) : ∀ (n : Nat) (x0 : α0) (x1 : α1) (x2 : α2) (x3 : α3) (x4 : α4) (x5 : α5) (x6 : α6) (x7 : α7) (x8 : α8) (x9 : α9) , lq10 body n x0 x1 x2 x3 x4 x5 x6 x7 x8 x9 = some out → P x0 x1 x2 x3 x4 x5 x6 x7 x8 x9
  | 0, _, _, _, _, _, _, _, _, _, _, h => by simp [lq10] at h
  | n + 1, x0, x1, x2, x3, x4, x5, x6, x7, x8, x9, h => hb (lq10 body n) (lq10_ok P hb n) x0 x1 x2 x3 x4 x5 x6 x7 x8 x9 h
theorem lq10_s {α0 α1 α2 α3 α4 α5 α6 α7 α8 α9 ρ : Type} (body : (α0 → α1 → α2 → α3 → α4 → α5 → α6 → α7 → α8 → α9 → Option ρ) → α0 → α1 → α2 → α3 → α4 → α5 → α6 → α7 → α8 → α9 → Option ρ) (n : Nat) (x0 : α0) (x1 : α1) (x2 : α2) (x3 : α3) (x4 : α4) (x5 : α5) (x6 : α6) (x7 : α7) (x8 : α8) (x9 : α9) : lq10 body (n + 1) x0 x1 x2 x3 x4 x5 x6 x7 x8 x9 = body (lq10 body n) x0 x1 x2 x3 x4 x5 x6 x7 x8 x9 := rfl
def jn10 {α0 α1 α2 α3 α4 α5 α6 α7 α8 α9 ρ : Type} (k : α0 → α1 → α2 → α3 → α4 → α5 → α6 → α7 → α8 → α9 → Option ρ) (body : (α0 → α1 → α2 → α3 → α4 → α5 → α6 → α7 → α8 → α9 → Option ρ) → Option ρ) : Option ρ := body k
theorem jn10_ok {α0 α1 α2 α3 α4 α5 α6 α7 α8 α9 ρ : Type} {k : α0 → α1 → α2 → α3 → α4 → α5 → α6 → α7 → α8 → α9 → Option ρ} {body : (α0 → α1 → α2 → α3 → α4 → α5 → α6 → α7 → α8 → α9 → Option ρ) → Option ρ} {out : ρ} {G : Prop} (P : α0 → α1 → α2 → α3 → α4 → α5 → α6 → α7 → α8 → α9 → Prop) (hk : ∀ (x0 : α0) (x1 : α1) (x2 : α2) (x3 : α3) (x4 : α4) (x5 : α5) (x6 : α6) (x7 : α7) (x8 : α8) (x9 : α9) , k x0 x1 x2 x3 x4 x5 x6 x7 x8 x9 = some out → P x0 x1 x2 x3 x4 x5 x6 x7 x8 x9) (hb : ∀ j : α0 → α1 → α2 → α3 → α4 → α5 → α6 → α7 → α8 → α9 → Option ρ, (∀ (x0 : α0) (x1 : α1) (x2 : α2) (x3 : α3) (x4 : α4) (x5 : α5) (x6 : α6) (x7 : α7) (x8 : α8) (x9 : α9) , j x0 x1 x2 x3 x4 x5 x6 x7 x8 x9 = some out → P x0 x1 x2 x3 x4 x5 x6 x7 x8 x9) → body j = some out → G) (h : jn10 k body = some out) : G := hb k hk h
/-! rooms by levels -/
def rmN (n : Nat) : Room := { frames := n, cells := 0, slots := 0, locals := 40 * n }
/-! what stands beside the world: the classes, and the words of the nest -/
def isNw : Cond → Bool
  | .fieldLinkNest .. => true
  | .methodLinkNest .. => true
  | _ => false
def nwL : List Cond := lw_tbl.filter isNw
def Kx (D : va_G) (cy : ClassId) (U : State) : Prop := va_K D vwCl [(cy, .int)] U ∧ ∀ w ∈ nwL, va_Nw w U
theorem nw_on {w : Cond} (h : w ∈ nwL) : w.onTables = true := by
  have h1 := (List.mem_filter.mp h).2
  cases w <;> first | rfl | (simp [isNw] at h1)
theorem Kx.warm {D : va_G} {cy : ClassId} {s U : State} (hW : s.WarmedH U.vm) (h : Kx D cy s) : Kx D cy U := by
  refine ⟨va_K.moved hW.alike h.1, fun w hw => ?_⟩
  have h1 := (List.mem_filter.mp hw).2
  have h2 := h.2 w hw
  cases w <;> first | exact va_Nw.warmF hW h2 | exact va_Nw.warmM hW h2 | (simp [isNw] at h1)
theorem Kx.call {D : va_G} {cy : ClassId} {U : State} (g : JFrame) (mk : MethodId) (a : Array Value) (h : Kx D cy U) : Kx D cy (U.calling g mk a) :=
  ⟨va_K.moved (u := U) (U := U.calling g mk a) (Vm.Alike.refl U.vm) h.1, fun w hw => va_Nw.same (nw_on hw) (u := U) (U := U.calling g mk a) rfl (h.2 w hw)⟩
theorem nw_at {w : Cond} (i : Nat) (h : tables_1[i]? = some w) (hg : isNw w = true) : w ∈ nwL := List.mem_filter.mpr ⟨List.mem_append_right _ (List.mem_of_getElem? h), hg⟩
/-- the world of a system in a method: it holds, it lies apart in A, since H0 nothing outside A has changed -/
def InW (D : va_G) (w : ST → va_W) (A : Nat → Prop) (H0 H : Heap) (locs : List Loc) (S : ST) : Prop := va_P D vwCl (w S) H ∧ va_D A (w S) ∧ va_S A H0 H locs ∧ ∀ q : Nat, H0.size ≤ q → A q
def Prw (D : va_G) (cy : ClassId) (w : ST → va_W) (S : ST) (sz : Nat) (U : State) : Prop := U.heap.size = sz ∧ va_P D vwCl (w S) U.heap ∧ Kx D cy U ∧ va_D (fun _ => True) (w S)
def Aft (D : va_G) (w : ST → va_W) (A : Nat → Prop) (S : ST) (t : State) : Prop := va_P D vwCl (w S) t.heap ∧ va_D A (w S)
/-- the contracts: an int, a long, nothing -/
def CtI (l : Launch) (y : MethodName) (cc : ByteArray) (nL : Nat) (rt : Option FieldType) (n : Nat) (av : List Value) (D : va_G) (cy : ClassId) (w : ST → va_W) (S : ST) (r : Int32) (S' : ST) : Prop :=
  ∀ sz : Nat, Met l y (Cond.code y cc nL rt :: tbG) (rmN n) (va_Pc av (Prw D cy w S sz)) (va_Qi (fun (r' : Int32) (u : ST) => r' = r ∧ u = S') (Aft D w (va_A (w S) sz)) (va_A (w S) sz)) 0 0 (va_A (w S) sz)
def CtL (l : Launch) (y : MethodName) (cc : ByteArray) (nL : Nat) (rt : Option FieldType) (n : Nat) (av : List Value) (D : va_G) (cy : ClassId) (w : ST → va_W) (S : ST) (r : Int64) (S' : ST) : Prop :=
  ∀ sz : Nat, Met l y (Cond.code y cc nL rt :: tbG) (rmN n) (va_Pc av (Prw D cy w S sz)) (va_Ql (fun (r' : Int64) (u : ST) => r' = r ∧ u = S') (Aft D w (va_A (w S) sz)) (va_A (w S) sz)) 0 0 (va_A (w S) sz)
def CtV (l : Launch) (y : MethodName) (cc : ByteArray) (nL : Nat) (rt : Option FieldType) (n : Nat) (av : List Value) (D : va_G) (cy : ClassId) (w : ST → va_W) (S : ST) (S' : ST) : Prop :=
  ∀ sz : Nat, Met l y (Cond.code y cc nL rt :: tbG) (rmN n) (va_Pc av (Prw D cy w S sz)) (va_Qv (fun (u : ST) => u = S') (Aft D w (va_A (w S) sz)) (va_A (w S) sz)) 0 0 (va_A (w S) sz)
/-- what a method's walk stands on -/
def Cx (p : Program) (s : State) (m : MethodId) (c : Code) (own : String) (cc : ByteArray) (nL : Nat) (args : Array Value) (D : va_G) (cy : ClassId) : Prop :=
  p.tables.exec = Jvm.exec ∧ c.code = cc ∧ c.maxLocals = nL ∧ s.vm.findClass own = some m.cls ∧ (∀ w ∈ tbG, w.before args s = true) ∧ Kx D cy s
def QI (below : List Frame) (args : Array Value) (s : State) (D : va_G) (w : ST → va_W) (A : Nat → Prop) (r : Int32) (S' : ST) : State → Prop := MQ below (va_Qi (fun (r' : Int32) (u : ST) => r' = r ∧ u = S') (Aft D w A) A) args s 0 0 A
def QL (below : List Frame) (args : Array Value) (s : State) (D : va_G) (w : ST → va_W) (A : Nat → Prop) (r : Int64) (S' : ST) : State → Prop := MQ below (va_Ql (fun (r' : Int64) (u : ST) => r' = r ∧ u = S') (Aft D w A) A) args s 0 0 A
def QV (below : List Frame) (args : Array Value) (s : State) (D : va_G) (w : ST → va_W) (A : Nat → Prop) (S' : ST) : State → Prop := MQ below (va_Qv (fun (u : ST) => u = S') (Aft D w A) A) args s 0 0 A
set_option maxHeartbeats 1000000 in
theorem CtI_of {l : Launch} {y : MethodName} {cc : ByteArray} {nL : Nat} {rt : Option FieldType} {n : Nat} {av : List Value} {D : va_G} {cy : ClassId} {w : ST → va_W} {S : ST} {r : Int32} {S' : ST} (hy : plainName y.cls = true) (hlen : (lg_sl av).length ≤ nL)
    (k : ∀ (p : Program) (e : Env) (s : State) (m : MethodId) (args : Array Value) (below : List Frame) (meth : Method) (c : Code) (A : Nat → Prop) (ls : Array Slot), Cx p s m c y.cls cc nL args D cy → meth.sig.returnType = rt → meth.locks = false → InW D w A s.heap s.heap [] S → lv_has ls nL (lv_args 0 av) → W p l e (rmN n) s m args below meth c s.heap [] 0 0 (QI below args s D w A r S') (F0 m 0 ls [])) : CtI l y cc nL rt n av D cy w S r S' := by
  intro sz
  refine Met.ofW (cc := cc) (maxL := nL) (ret := rt) hy rfl ?_
  intro p e s m args below meth c s₁ B hml hv
  obtain ⟨rfl, hsz, hP, hK, hD0⟩ := hv
  have hts := atoms_spec (ws := Cond.code y cc nL rt :: tbG) B.pre
  have hown : s.vm.findClass y.cls = some m.cls := findClass_of_methodNamed B.named
  subst hsz
  have hl := lv_entry av (n := nL) hlen
  rw [lg_entry_eq]
  exact k p e s m _ below meth c (va_A (w S) s.heap.size) _ ⟨B.exec, B.bytes, hml, hown, fun x hx => hts x (List.mem_cons_of_mem _ hx), hK⟩ B.returns B.notSynchronized ⟨hP, hD0.self, va_S.rf, fun q h => Or.inr h⟩ hl
set_option maxHeartbeats 1000000 in
theorem CtL_of {l : Launch} {y : MethodName} {cc : ByteArray} {nL : Nat} {rt : Option FieldType} {n : Nat} {av : List Value} {D : va_G} {cy : ClassId} {w : ST → va_W} {S : ST} {r : Int64} {S' : ST} (hy : plainName y.cls = true) (hlen : (lg_sl av).length ≤ nL)
    (k : ∀ (p : Program) (e : Env) (s : State) (m : MethodId) (args : Array Value) (below : List Frame) (meth : Method) (c : Code) (A : Nat → Prop) (ls : Array Slot), Cx p s m c y.cls cc nL args D cy → meth.sig.returnType = rt → meth.locks = false → InW D w A s.heap s.heap [] S → lv_has ls nL (lv_args 0 av) → W p l e (rmN n) s m args below meth c s.heap [] 0 0 (QL below args s D w A r S') (F0 m 0 ls [])) : CtL l y cc nL rt n av D cy w S r S' := by
  intro sz
  refine Met.ofW (cc := cc) (maxL := nL) (ret := rt) hy rfl ?_
  intro p e s m args below meth c s₁ B hml hv
  obtain ⟨rfl, hsz, hP, hK, hD0⟩ := hv
  have hts := atoms_spec (ws := Cond.code y cc nL rt :: tbG) B.pre
  have hown : s.vm.findClass y.cls = some m.cls := findClass_of_methodNamed B.named
  subst hsz
  have hl := lv_entry av (n := nL) hlen
  rw [lg_entry_eq]
  exact k p e s m _ below meth c (va_A (w S) s.heap.size) _ ⟨B.exec, B.bytes, hml, hown, fun x hx => hts x (List.mem_cons_of_mem _ hx), hK⟩ B.returns B.notSynchronized ⟨hP, hD0.self, va_S.rf, fun q h => Or.inr h⟩ hl
set_option maxHeartbeats 1000000 in
theorem CtV_of {l : Launch} {y : MethodName} {cc : ByteArray} {nL : Nat} {rt : Option FieldType} {n : Nat} {av : List Value} {D : va_G} {cy : ClassId} {w : ST → va_W} {S : ST} {S' : ST} (hy : plainName y.cls = true) (hlen : (lg_sl av).length ≤ nL)
    (k : ∀ (p : Program) (e : Env) (s : State) (m : MethodId) (args : Array Value) (below : List Frame) (meth : Method) (c : Code) (A : Nat → Prop) (ls : Array Slot), Cx p s m c y.cls cc nL args D cy → meth.sig.returnType = rt → meth.locks = false → InW D w A s.heap s.heap [] S → lv_has ls nL (lv_args 0 av) → W p l e (rmN n) s m args below meth c s.heap [] 0 0 (QV below args s D w A S') (F0 m 0 ls [])) : CtV l y cc nL rt n av D cy w S S' := by
  intro sz
  refine Met.ofW (cc := cc) (maxL := nL) (ret := rt) hy rfl ?_
  intro p e s m args below meth c s₁ B hml hv
  obtain ⟨rfl, hsz, hP, hK, hD0⟩ := hv
  have hts := atoms_spec (ws := Cond.code y cc nL rt :: tbG) B.pre
  have hown : s.vm.findClass y.cls = some m.cls := findClass_of_methodNamed B.named
  subst hsz
  have hl := lv_entry av (n := nL) hlen
  rw [lg_entry_eq]
  exact k p e s m _ below meth c (va_A (w S) s.heap.size) _ ⟨B.exec, B.bytes, hml, hown, fun x hx => hts x (List.mem_cons_of_mem _ hx), hK⟩ B.returns B.notSynchronized ⟨hP, hD0.self, va_S.rf, fun q h => Or.inr h⟩ hl
section BW
variable {p : Program} {l : Launch} {e : Env} {R : Room} {s : State} {m : MethodId} {args : Array Value} {below : List Frame} {meth : Method} {c : Code} {H0 H : Heap} {locs : List Loc} {Q : State → Prop}
variable {own : String} {cc : ByteArray} {nL : Nat} {D : va_G} {cy : ClassId} {w : ST → va_W} {A : Nat → Prop} {S : ST} {pc : Nat} {ls : Array Slot} {rest : List Value}
theorem rtI {r r' : Int32} {S' : ST} (hC : Cx p s m c own cc nL args D cy) (hr : meth.sig.returnType = some .int) (hk : meth.locks = false) (hw : InW D w A s.heap H locs S) (e1 : r' = r) (e2 : S = S') (d : decode cc pc = .ok (.ireturn, 1)) : W p l e R s m args below meth c H locs 0 0 (QI below args s D w A r S') (F0 m pc ls [.int r']) := by
  subst e1; subst e2
  exact W.iret (v := r') hC.1 hC.2.1 hr (fun t ht hW => ⟨⟨r', S, rfl, ⟨rfl, rfl⟩, by rw [ht]; exact hw.1, hw.2.1⟩, hw.2.2.1.F ht⟩) hw.2.2.1.2.2 d hk
theorem rtZ {r r' : Int32} {S' : ST} (hC : Cx p s m c own cc nL args D cy) (hr : meth.sig.returnType = some .boolean) (hk : meth.locks = false) (hw : InW D w A s.heap H locs S) (hz : zB r' = true) (e1 : r' = r) (e2 : S = S') (d : decode cc pc = .ok (.ireturn, 1)) : W p l e R s m args below meth c H locs 0 0 (QI below args s D w A r S') (F0 m pc ls [.int r']) := by
  subst e1; subst e2
  exact W.zret (v := r') hC.1 hC.2.1 hr (zB_nar hz) (fun t ht hW => ⟨⟨r', S, rfl, ⟨rfl, rfl⟩, by rw [ht]; exact hw.1, hw.2.1⟩, hw.2.2.1.F ht⟩) hw.2.2.1.2.2 d hk
theorem rtL {r r' : Int64} {S' : ST} (hC : Cx p s m c own cc nL args D cy) (hr : meth.sig.returnType = some .long) (hk : meth.locks = false) (hw : InW D w A s.heap H locs S) (e1 : r' = r) (e2 : S = S') (d : decode cc pc = .ok (.lreturn, 1)) : W p l e R s m args below meth c H locs 0 0 (QL below args s D w A r S') (F0 m pc ls [.long r']) := by
  subst e1; subst e2
  exact W.lret (v := r') hC.1 hC.2.1 hr (fun t ht hW => ⟨⟨r', S, rfl, ⟨rfl, rfl⟩, by rw [ht]; exact hw.1, hw.2.1⟩, hw.2.2.1.F ht⟩) hw.2.2.1.2.2 d hk
theorem rtV {S' : ST} (hC : Cx p s m c own cc nL args D cy) (hr : meth.sig.returnType = none) (hk : meth.locks = false) (hw : InW D w A s.heap H locs S) (e2 : S = S') (d : decode cc pc = .ok (.return_, 1)) : W p l e R s m args below meth c H locs 0 0 (QV below args s D w A S') (F0 m pc ls []) := by
  subst e2
  exact W.vret hC.1 hC.2.1 hr (fun t ht hW => ⟨⟨S, rfl, rfl, by rw [ht]; exact hw.1, hw.2.1⟩, hw.2.2.1.F ht⟩) hw.2.2.1.2.2 d hk
/-- behind a call in the same world -/
theorem InW.back {S' : ST} {t : State} {H1 : Heap} {locs1 : List Loc} (hw : InW D w A H0 H locs S) (ht : t.heap = H1) (hB : Aft D w (va_A (w S) H.size) S' t) (hS : va_S A H0 H1 locs1) : InW D w A H0 H1 locs1 S' := by
  refine ⟨by rw [← ht]; exact hB.1, hB.2.weaken (fun k q _ h => ?_), hS, hw.2.2.2⟩
  rcases h with ⟨k, e, h⟩ | h
  · exact hw.2.1.2 k (q.1, e) h
  · exact hw.2.2.2 _ (Nat.le_trans hw.2.2.1.1 h)
theorem InW.free (hw : InW D w A H0 H locs S) : ∀ q : Nat, va_A (w S) H.size q → A q := fun q h => by
  rcases h with ⟨k, e, h⟩ | h
  · exact hw.2.1.2 k _ h
  · exact hw.2.2.2 _ (Nat.le_trans hw.2.2.1.1 h)
theorem Prw.blind {av : List Value} {sz : Nat} : FrameBlind (va_Pc av (Prw D cy w S sz)) := fun a U g mk h => ⟨h.1, h.2.1, h.2.2.1, h.2.2.2.1.call g mk a, h.2.2.2.2⟩
theorem Prw.of {U : State} (hK : Kx D cy s) (hw : InW D w A H0 H locs S) (hU : U.heap = H) (hW : s.WarmedH U.vm) : Prw D cy w S H.size U := ⟨by rw [hU], by rw [hU]; exact hw.1, hK.warm hW, ⟨hw.2.1.1, fun _ _ _ => trivial⟩⟩
theorem gz {y : MethodName} {cb : ByteArray} {nM : Nat} {rt : Option FieldType} (h : Cond.code y cb nM rt ∈ tbG) : GoodIn tbG (Cond.code y cb nM rt :: tbG) := fun v hv => by
  rcases List.mem_cons.mp hv with rfl | hv
  · exact ⟨h, good_of_word (List.mem_filter.mp h).2⟩
  · exact ⟨hv, good_of_word (List.mem_filter.mp hv).2⟩
theorem lev {n n' nM : Nat} (h : n' + 1 ≤ n) (hM : nM ≤ 21) : (rmN n').frames + 1 ≤ (rmN n).frames ∧ 8 + (nM + 11) + (rmN n').locals ≤ (rmN n).locals := by
  simp only [rmN]
  omega
set_option maxHeartbeats 1000000 in
theorem caVI {y : MethodName} {cb : ByteArray} {nM n n' index : Nat} {rt : Option FieldType} {As : List Value} {b : Nat} {r : Int32} {S' : ST} (hC : Cx p s m c own cc nL args D cy) (hw : InW D w A H0 H locs S) (hls : ls.size = nL) (hlk : Cond.methodLink own index y ∈ tbG) (hi : Cond.initialized y.cls ∈ tbG) (hco : Cond.code y cb nM rt ∈ tbG) (hin : Cond.instanceMethod y ∈ tbG) (hse : Cond.selects y.cls y y ∈ tbG) (q0 ci : Nat) {fs : List Value} {T : u_T} {N : Nat} (he : (w S)[q0]? = some (b, .inr (ci, fs))) (hcl : vwCl[ci]? = some (y.cls, T, N)) (na : Nat) (hna : As.length = na) (hd : y.cls ≠ "java/lang/invoke/MethodHandle" ∧ y.cls ≠ "java/lang/invoke/VarHandle" ∧ (parseMethodDescriptor y.desc).map (fun d => d.parameters.length) = some na) (hn : n' + 1 ≤ n) (hM : nM ≤ 21) (hrest : (rest.map fun v => v.category).sum ≤ 8) (d : decode cc pc = .ok (.invokevirtual index, 3))
    (hM1 : CtI l y cb nM rt n' (Value.ref b :: As) D cy w S r S')
    (k : ∀ (H1 : Heap) (locs1 : List Loc), InW D w A H0 H1 locs1 S' → W p l e (rmN n) s m args below meth c H1 locs1 0 0 Q (F0 m (pc + 3) ls (.int r :: rest))) : W p l e (rmN n) s m args below meth c H locs 0 0 Q (F0 m pc ls (As.reverse ++ .ref b :: rest)) := by
  refine va_calli (va_runV (As := As) (rest := rest) (nL := nL) (Ts := tbG) (own := own) (cc := cc) ⟨hC.1, hC.2.1, hC.2.2.1, hC.2.2.2.1, hC.2.2.2.2.1⟩ (hM1 H.size) ⟨callB_of na hC.2.2.2.2.1 (gz hco) rfl rfl rfl (hC.2.2.2.2.1 _ hi) (hC.2.2.2.2.1 _ hlk) hd (lev hn hM), hC.2.2.2.2.1 _ hin, hC.2.2.2.2.1 _ hse⟩ ⟨Prw.blind, va_recv hC.2.2.2.2.2.1 hw.1 hcl he, fun U hU hW => ⟨rfl, Prw.of hC.2.2.2.2.2 hw hU hW⟩⟩ rfl hna hls rfl (lv_room hrest) d ⟨Nat.le_refl _, Nat.le_refl _⟩) hw.2.2.1 (fun q _ h => hw.free q h) hw.free (fun r1 u t H1 locs1 ht hvm hp1 hB hz hkp hS => ?_)
  obtain ⟨rfl, rfl⟩ := hp1
  exact k H1 locs1 (hw.back ht hB hS)
set_option maxHeartbeats 1000000 in
theorem caVL {y : MethodName} {cb : ByteArray} {nM n n' index : Nat} {rt : Option FieldType} {As : List Value} {b : Nat} {r : Int64} {S' : ST} (hC : Cx p s m c own cc nL args D cy) (hw : InW D w A H0 H locs S) (hls : ls.size = nL) (hlk : Cond.methodLink own index y ∈ tbG) (hi : Cond.initialized y.cls ∈ tbG) (hco : Cond.code y cb nM rt ∈ tbG) (hin : Cond.instanceMethod y ∈ tbG) (hse : Cond.selects y.cls y y ∈ tbG) (q0 ci : Nat) {fs : List Value} {T : u_T} {N : Nat} (he : (w S)[q0]? = some (b, .inr (ci, fs))) (hcl : vwCl[ci]? = some (y.cls, T, N)) (na : Nat) (hna : As.length = na) (hd : y.cls ≠ "java/lang/invoke/MethodHandle" ∧ y.cls ≠ "java/lang/invoke/VarHandle" ∧ (parseMethodDescriptor y.desc).map (fun d => d.parameters.length) = some na) (hn : n' + 1 ≤ n) (hM : nM ≤ 21) (hrest : (rest.map fun v => v.category).sum ≤ 8) (d : decode cc pc = .ok (.invokevirtual index, 3))
    (hM1 : CtL l y cb nM rt n' (Value.ref b :: As) D cy w S r S')
    (k : ∀ (H1 : Heap) (locs1 : List Loc), InW D w A H0 H1 locs1 S' → W p l e (rmN n) s m args below meth c H1 locs1 0 0 Q (F0 m (pc + 3) ls (.long r :: rest))) : W p l e (rmN n) s m args below meth c H locs 0 0 Q (F0 m pc ls (As.reverse ++ .ref b :: rest)) := by
  refine va_calll (va_runV (As := As) (rest := rest) (nL := nL) (Ts := tbG) (own := own) (cc := cc) ⟨hC.1, hC.2.1, hC.2.2.1, hC.2.2.2.1, hC.2.2.2.2.1⟩ (hM1 H.size) ⟨callB_of na hC.2.2.2.2.1 (gz hco) rfl rfl rfl (hC.2.2.2.2.1 _ hi) (hC.2.2.2.2.1 _ hlk) hd (lev hn hM), hC.2.2.2.2.1 _ hin, hC.2.2.2.2.1 _ hse⟩ ⟨Prw.blind, va_recv hC.2.2.2.2.2.1 hw.1 hcl he, fun U hU hW => ⟨rfl, Prw.of hC.2.2.2.2.2 hw hU hW⟩⟩ rfl hna hls rfl (lv_room hrest) d ⟨Nat.le_refl _, Nat.le_refl _⟩) hw.2.2.1 (fun q _ h => hw.free q h) hw.free (fun r1 u t H1 locs1 ht hvm hp1 hB hz hkp hS => ?_)
  obtain ⟨rfl, rfl⟩ := hp1
  exact k H1 locs1 (hw.back ht hB hS)
set_option maxHeartbeats 1000000 in
theorem caVV {y : MethodName} {cb : ByteArray} {nM n n' index : Nat} {rt : Option FieldType} {As : List Value} {b : Nat} {S' : ST} (hC : Cx p s m c own cc nL args D cy) (hw : InW D w A H0 H locs S) (hls : ls.size = nL) (hlk : Cond.methodLink own index y ∈ tbG) (hi : Cond.initialized y.cls ∈ tbG) (hco : Cond.code y cb nM rt ∈ tbG) (hin : Cond.instanceMethod y ∈ tbG) (hse : Cond.selects y.cls y y ∈ tbG) (q0 ci : Nat) {fs : List Value} {T : u_T} {N : Nat} (he : (w S)[q0]? = some (b, .inr (ci, fs))) (hcl : vwCl[ci]? = some (y.cls, T, N)) (na : Nat) (hna : As.length = na) (hd : y.cls ≠ "java/lang/invoke/MethodHandle" ∧ y.cls ≠ "java/lang/invoke/VarHandle" ∧ (parseMethodDescriptor y.desc).map (fun d => d.parameters.length) = some na) (hn : n' + 1 ≤ n) (hM : nM ≤ 21) (hrest : (rest.map fun v => v.category).sum ≤ 8) (d : decode cc pc = .ok (.invokevirtual index, 3))
    (hM1 : CtV l y cb nM rt n' (Value.ref b :: As) D cy w S S')
    (k : ∀ (H1 : Heap) (locs1 : List Loc), InW D w A H0 H1 locs1 S' → W p l e (rmN n) s m args below meth c H1 locs1 0 0 Q (F0 m (pc + 3) ls (rest))) : W p l e (rmN n) s m args below meth c H locs 0 0 Q (F0 m pc ls (As.reverse ++ .ref b :: rest)) := by
  refine va_callv (va_runV (As := As) (rest := rest) (nL := nL) (Ts := tbG) (own := own) (cc := cc) ⟨hC.1, hC.2.1, hC.2.2.1, hC.2.2.2.1, hC.2.2.2.2.1⟩ (hM1 H.size) ⟨callB_of na hC.2.2.2.2.1 (gz hco) rfl rfl rfl (hC.2.2.2.2.1 _ hi) (hC.2.2.2.2.1 _ hlk) hd (lev hn hM), hC.2.2.2.2.1 _ hin, hC.2.2.2.2.1 _ hse⟩ ⟨Prw.blind, va_recv hC.2.2.2.2.2.1 hw.1 hcl he, fun U hU hW => ⟨rfl, Prw.of hC.2.2.2.2.2 hw hU hW⟩⟩ rfl hna hls rfl (lv_room hrest) d ⟨Nat.le_refl _, Nat.le_refl _⟩) hw.2.2.1 (fun q _ h => hw.free q h) hw.free (fun u t H1 locs1 ht hvm hp1 hB hz hkp hS => ?_)
  obtain rfl := hp1
  exact k H1 locs1 (hw.back ht hB hS)
set_option maxHeartbeats 1000000 in
theorem caSI {y : MethodName} {cb : ByteArray} {nM n n' index : Nat} {rt : Option FieldType} {As : List Value} {r : Int32} {S' : ST} (hC : Cx p s m c own cc nL args D cy) (hw : InW D w A H0 H locs S) (hls : ls.size = nL) (hlk : Cond.methodLink own index y ∈ tbG) (hi : Cond.initialized y.cls ∈ tbG) (hco : Cond.code y cb nM rt ∈ tbG) (hst : Cond.static y ∈ tbG) (na : Nat) (hna : As.length = na) (hd : y.cls ≠ "java/lang/invoke/MethodHandle" ∧ y.cls ≠ "java/lang/invoke/VarHandle" ∧ (parseMethodDescriptor y.desc).map (fun d => d.parameters.length) = some na) (hn : n' + 1 ≤ n) (hM : nM ≤ 21) (hrest : (rest.map fun v => v.category).sum ≤ 8) (d : decode cc pc = .ok (.invokestatic index, 3))
    (hM1 : CtI l y cb nM rt n' As D cy w S r S')
    (k : ∀ (H1 : Heap) (locs1 : List Loc), InW D w A H0 H1 locs1 S' → W p l e (rmN n) s m args below meth c H1 locs1 0 0 Q (F0 m (pc + 3) ls (.int r :: rest))) : W p l e (rmN n) s m args below meth c H locs 0 0 Q (F0 m pc ls (As.reverse ++ rest)) := by
  refine va_calli (va_runS (As := As) (rest := rest) (nL := nL) (Ts := tbG) (own := own) (cc := cc) ⟨hC.1, hC.2.1, hC.2.2.1, hC.2.2.2.1, hC.2.2.2.2.1⟩ (hM1 H.size) ⟨callB_of na hC.2.2.2.2.1 (gz hco) rfl rfl rfl (hC.2.2.2.2.1 _ hi) (hC.2.2.2.2.1 _ hlk) hd (lev hn hM), hC.2.2.2.2.1 _ hst⟩ ⟨Prw.blind, fun U hU hW => ⟨rfl, Prw.of hC.2.2.2.2.2 hw hU hW⟩⟩ rfl hna hls rfl (lv_room hrest) d ⟨Nat.le_refl _, Nat.le_refl _⟩) hw.2.2.1 (fun q _ h => hw.free q h) hw.free (fun r1 u t H1 locs1 ht hvm hp1 hB hz hkp hS => ?_)
  obtain ⟨rfl, rfl⟩ := hp1
  exact k H1 locs1 (hw.back ht hB hS)
set_option maxHeartbeats 1000000 in
theorem caSL {y : MethodName} {cb : ByteArray} {nM n n' index : Nat} {rt : Option FieldType} {As : List Value} {r : Int64} {S' : ST} (hC : Cx p s m c own cc nL args D cy) (hw : InW D w A H0 H locs S) (hls : ls.size = nL) (hlk : Cond.methodLink own index y ∈ tbG) (hi : Cond.initialized y.cls ∈ tbG) (hco : Cond.code y cb nM rt ∈ tbG) (hst : Cond.static y ∈ tbG) (na : Nat) (hna : As.length = na) (hd : y.cls ≠ "java/lang/invoke/MethodHandle" ∧ y.cls ≠ "java/lang/invoke/VarHandle" ∧ (parseMethodDescriptor y.desc).map (fun d => d.parameters.length) = some na) (hn : n' + 1 ≤ n) (hM : nM ≤ 21) (hrest : (rest.map fun v => v.category).sum ≤ 8) (d : decode cc pc = .ok (.invokestatic index, 3))
    (hM1 : CtL l y cb nM rt n' As D cy w S r S')
    (k : ∀ (H1 : Heap) (locs1 : List Loc), InW D w A H0 H1 locs1 S' → W p l e (rmN n) s m args below meth c H1 locs1 0 0 Q (F0 m (pc + 3) ls (.long r :: rest))) : W p l e (rmN n) s m args below meth c H locs 0 0 Q (F0 m pc ls (As.reverse ++ rest)) := by
  refine va_calll (va_runS (As := As) (rest := rest) (nL := nL) (Ts := tbG) (own := own) (cc := cc) ⟨hC.1, hC.2.1, hC.2.2.1, hC.2.2.2.1, hC.2.2.2.2.1⟩ (hM1 H.size) ⟨callB_of na hC.2.2.2.2.1 (gz hco) rfl rfl rfl (hC.2.2.2.2.1 _ hi) (hC.2.2.2.2.1 _ hlk) hd (lev hn hM), hC.2.2.2.2.1 _ hst⟩ ⟨Prw.blind, fun U hU hW => ⟨rfl, Prw.of hC.2.2.2.2.2 hw hU hW⟩⟩ rfl hna hls rfl (lv_room hrest) d ⟨Nat.le_refl _, Nat.le_refl _⟩) hw.2.2.1 (fun q _ h => hw.free q h) hw.free (fun r1 u t H1 locs1 ht hvm hp1 hB hz hkp hS => ?_)
  obtain ⟨rfl, rfl⟩ := hp1
  exact k H1 locs1 (hw.back ht hB hS)
set_option maxHeartbeats 1000000 in
theorem caSV {y : MethodName} {cb : ByteArray} {nM n n' index : Nat} {rt : Option FieldType} {As : List Value} {S' : ST} (hC : Cx p s m c own cc nL args D cy) (hw : InW D w A H0 H locs S) (hls : ls.size = nL) (hlk : Cond.methodLink own index y ∈ tbG) (hi : Cond.initialized y.cls ∈ tbG) (hco : Cond.code y cb nM rt ∈ tbG) (hst : Cond.static y ∈ tbG) (na : Nat) (hna : As.length = na) (hd : y.cls ≠ "java/lang/invoke/MethodHandle" ∧ y.cls ≠ "java/lang/invoke/VarHandle" ∧ (parseMethodDescriptor y.desc).map (fun d => d.parameters.length) = some na) (hn : n' + 1 ≤ n) (hM : nM ≤ 21) (hrest : (rest.map fun v => v.category).sum ≤ 8) (d : decode cc pc = .ok (.invokestatic index, 3))
    (hM1 : CtV l y cb nM rt n' As D cy w S S')
    (k : ∀ (H1 : Heap) (locs1 : List Loc), InW D w A H0 H1 locs1 S' → W p l e (rmN n) s m args below meth c H1 locs1 0 0 Q (F0 m (pc + 3) ls (rest))) : W p l e (rmN n) s m args below meth c H locs 0 0 Q (F0 m pc ls (As.reverse ++ rest)) := by
  refine va_callv (va_runS (As := As) (rest := rest) (nL := nL) (Ts := tbG) (own := own) (cc := cc) ⟨hC.1, hC.2.1, hC.2.2.1, hC.2.2.2.1, hC.2.2.2.2.1⟩ (hM1 H.size) ⟨callB_of na hC.2.2.2.2.1 (gz hco) rfl rfl rfl (hC.2.2.2.2.1 _ hi) (hC.2.2.2.2.1 _ hlk) hd (lev hn hM), hC.2.2.2.2.1 _ hst⟩ ⟨Prw.blind, fun U hU hW => ⟨rfl, Prw.of hC.2.2.2.2.2 hw hU hW⟩⟩ rfl hna hls rfl (lv_room hrest) d ⟨Nat.le_refl _, Nat.le_refl _⟩) hw.2.2.1 (fun q _ h => hw.free q h) hw.free (fun u t H1 locs1 ht hvm hp1 hB hz hkp hS => ?_)
  obtain rfl := hp1
  exact k H1 locs1 (hw.back ht hB hS)
set_option maxHeartbeats 1000000 in
theorem caVNI {y : MethodName} {cb : ByteArray} {nM n n' index : Nat} {rt : Option FieldType} {As : List Value} {b : Nat} {r : Int32} {S' : ST} (hC : Cx p s m c own cc nL args D cy) (hw : InW D w A H0 H locs S) (hls : ls.size = nL) {host : String} (hlk : Cond.methodLinkNest own index y host ∈ nwL) (hi : Cond.initialized y.cls ∈ tbG) (hco : Cond.code y cb nM rt ∈ tbG) (hin : Cond.instanceMethod y ∈ tbG) (hse : Cond.selects y.cls y y ∈ tbG) (q0 ci : Nat) {fs : List Value} {T : u_T} {N : Nat} (he : (w S)[q0]? = some (b, .inr (ci, fs))) (hcl : vwCl[ci]? = some (y.cls, T, N)) (na : Nat) (hna : As.length = na) (hd : y.cls ≠ "java/lang/invoke/MethodHandle" ∧ y.cls ≠ "java/lang/invoke/VarHandle" ∧ (parseMethodDescriptor y.desc).map (fun d => d.parameters.length) = some na) (hn : n' + 1 ≤ n) (hM : nM ≤ 21) (hrest : (rest.map fun v => v.category).sum ≤ 8) (d : decode cc pc = .ok (.invokevirtual index, 3))
    (hM1 : CtI l y cb nM rt n' (Value.ref b :: As) D cy w S r S')
    (k : ∀ (H1 : Heap) (locs1 : List Loc), InW D w A H0 H1 locs1 S' → W p l e (rmN n) s m args below meth c H1 locs1 0 0 Q (F0 m (pc + 3) ls (.int r :: rest))) : W p l e (rmN n) s m args below meth c H locs 0 0 Q (F0 m pc ls (As.reverse ++ .ref b :: rest)) := by
  refine va_calli (va_runVN (As := As) (rest := rest) (nL := nL) (Ts := tbG) (own := own) (cc := cc) ⟨hC.1, hC.2.1, hC.2.2.1, hC.2.2.2.1, hC.2.2.2.2.1⟩ (hM1 H.size) ⟨va_cnB (host := host) na hC.2.2.2.2.1 (gz hco) rfl rfl rfl (hC.2.2.2.2.2.2 _ hlk) (hC.2.2.2.2.1 _ hi) hd (lev hn hM), hC.2.2.2.2.1 _ hin, hC.2.2.2.2.1 _ hse⟩ ⟨Prw.blind, va_recv hC.2.2.2.2.2.1 hw.1 hcl he, fun U hU hW => ⟨rfl, Prw.of hC.2.2.2.2.2 hw hU hW⟩⟩ rfl hna hls rfl (lv_room hrest) d ⟨Nat.le_refl _, Nat.le_refl _⟩) hw.2.2.1 (fun q _ h => hw.free q h) hw.free (fun r1 u t H1 locs1 ht hvm hp1 hB hz hkp hS => ?_)
  obtain ⟨rfl, rfl⟩ := hp1
  exact k H1 locs1 (hw.back ht hB hS)
set_option maxHeartbeats 1000000 in
theorem caSNI {y : MethodName} {cb : ByteArray} {nM n n' index : Nat} {rt : Option FieldType} {As : List Value} {r : Int32} {S' : ST} (hC : Cx p s m c own cc nL args D cy) (hw : InW D w A H0 H locs S) (hls : ls.size = nL) {host : String} (hlk : Cond.methodLinkNest own index y host ∈ nwL) (hi : Cond.initialized y.cls ∈ tbG) (hco : Cond.code y cb nM rt ∈ tbG) (hst : Cond.static y ∈ tbG) (na : Nat) (hna : As.length = na) (hd : y.cls ≠ "java/lang/invoke/MethodHandle" ∧ y.cls ≠ "java/lang/invoke/VarHandle" ∧ (parseMethodDescriptor y.desc).map (fun d => d.parameters.length) = some na) (hn : n' + 1 ≤ n) (hM : nM ≤ 21) (hrest : (rest.map fun v => v.category).sum ≤ 8) (d : decode cc pc = .ok (.invokestatic index, 3))
    (hM1 : CtI l y cb nM rt n' As D cy w S r S')
    (k : ∀ (H1 : Heap) (locs1 : List Loc), InW D w A H0 H1 locs1 S' → W p l e (rmN n) s m args below meth c H1 locs1 0 0 Q (F0 m (pc + 3) ls (.int r :: rest))) : W p l e (rmN n) s m args below meth c H locs 0 0 Q (F0 m pc ls (As.reverse ++ rest)) := by
  refine va_calli (va_runSN (As := As) (rest := rest) (nL := nL) (Ts := tbG) (own := own) (cc := cc) ⟨hC.1, hC.2.1, hC.2.2.1, hC.2.2.2.1, hC.2.2.2.2.1⟩ (hM1 H.size) ⟨va_cnB (host := host) na hC.2.2.2.2.1 (gz hco) rfl rfl rfl (hC.2.2.2.2.2.2 _ hlk) (hC.2.2.2.2.1 _ hi) hd (lev hn hM), hC.2.2.2.2.1 _ hst, trivial⟩ ⟨Prw.blind, fun U hU hW => ⟨rfl, Prw.of hC.2.2.2.2.2 hw hU hW⟩⟩ rfl hna hls rfl (lv_room hrest) d ⟨Nat.le_refl _, Nat.le_refl _⟩) hw.2.2.1 (fun q _ h => hw.free q h) hw.free (fun r1 u t H1 locs1 ht hvm hp1 hB hz hkp hS => ?_)
  obtain ⟨rfl, rfl⟩ := hp1
  exact k H1 locs1 (hw.back ht hB hS)
/-- fields and rows of a world -/
theorem gf {C : String} {T : u_T} {N index : Nat} {a : Nat} {ref : String} (hC : Cx p s m c own cc nL args D cy) (hw : InW D w A H0 H locs S) (hin : ∀ x ∈ u_ws C T N, x ∈ tbG) (q0 ci k : Nat) {fs : List Value} {v : Value} (he : (w S)[q0]? = some (a, .inr (ci, fs))) (hcl : vwCl[ci]? = some (C, T, N)) (hk : k < N) (hlk : Cond.fieldLink own index ref (T k).2.1 (T k).2.2.1 ∈ tbG) (hrf : (T k).1 = ref) (hv : fs[k]? = some v) (d : decode cc pc = .ok (.getfield index, 3)) {cells slots : Nat}
    (kk : W p l e R s m args below meth c H locs cells slots Q (F0 m (pc + 3) ls (v :: rest))) : W p l e R s m args below meth c H locs cells slots Q (F0 m pc ls (.ref a :: rest)) :=
  va_get hC.1 hC.2.1 hC.2.2.2.2.1 hin hC.2.2.2.1 hC.2.2.2.2.2.1 hw.1 q0 he hcl k hk (hC.2.2.2.2.1 _ hlk) (fun _ h => hrf ▸ h) hv d kk
theorem gfN {C : String} {T : u_T} {N index : Nat} {a : Nat} {ref host : String} (hC : Cx p s m c own cc nL args D cy) (hw : InW D w A H0 H locs S) (hin : ∀ x ∈ u_ws C T N, x ∈ tbG) (q0 ci k : Nat) {fs : List Value} {v : Value} (he : (w S)[q0]? = some (a, .inr (ci, fs))) (hcl : vwCl[ci]? = some (C, T, N)) (hk : k < N) (hlk : Cond.fieldLinkNest own index ref (T k).2.1 (T k).2.2.1 host ∈ nwL) (hrf : (T k).1 = ref) (hv : fs[k]? = some v) (d : decode cc pc = .ok (.getfield index, 3)) {cells slots : Nat}
    (kk : W p l e R s m args below meth c H locs cells slots Q (F0 m (pc + 3) ls (v :: rest))) : W p l e R s m args below meth c H locs cells slots Q (F0 m pc ls (.ref a :: rest)) :=
  va_getN hC.1 hC.2.1 hC.2.2.2.2.1 hin hC.2.2.2.1 hC.2.2.2.2.2.1 hw.1 q0 he hcl k hk (va_Nw.use rfl (hC.2.2.2.2.2.2 _ hlk)) (fun _ h => hrf ▸ h) hv d kk
theorem pf {C : String} {T : u_T} {N index : Nat} {a : Nat} {ref : String} {ty0 : Nat → FieldType} {S' : ST} (hC : Cx p s m c own cc nL args D cy) (hw : InW D w A H0 H locs S) (hin : ∀ x ∈ u_ws C T N, x ∈ tbG) (hty : ∀ k, k < N → parseFieldDescriptor (T k).2.2.1 = some (ty0 k)) (hnm : ∀ a, a < N → ∀ b, b < N → a ≠ b → (T a).2.1 ≠ (T b).2.1) (q0 ci k : Nat) {fs : List Value} {v : Value} {ty : FieldType} (he : (w S)[q0]? = some (a, .inr (ci, fs))) (hcl : vwCl[ci]? = some (C, T, N)) (hk : k < N) (hlk : Cond.fieldLink own index ref (T k).2.1 (T k).2.2.1 ∈ tbG) (hrf : (T k).1 = ref) (hfin : (T k).2.2.2 = false) (hd : parseFieldDescriptor (T k).2.2.1 = some ty) (hn : narrow ty v = v) (hfit : fits ty v = true) (hl : k < fs.length) (hset : (w S).set q0 (a, .inr (ci, fs.set k v)) = w S') (d : decode cc pc = .ok (.putfield index, 3)) {cells slots : Nat}
    (kk : ∀ (H1 : Heap) (locs1 : List Loc), InW D w A H0 H1 locs1 S' → W p l e R s m args below meth c H1 locs1 cells slots Q (F0 m (pc + 3) ls rest)) : W p l e R s m args below meth c H locs cells slots Q (F0 m pc ls (v :: .ref a :: rest)) :=
  va_put hC.1 hC.2.1 hC.2.2.2.2.1 hin ty0 hty hnm hC.2.2.2.1 hC.2.2.2.2.2.1 hw.1 hw.2.1 hw.2.2.1 q0 he hcl k hk (hC.2.2.2.2.1 _ hlk) (fun _ h => hrf ▸ h) hfin hd hn hfit hl d (fun H1 locs1 h1 h2 h3 => kk H1 locs1 ⟨hset ▸ h1, hset ▸ h2, h3, hw.2.2.2⟩)
theorem pfN {C : String} {T : u_T} {N index : Nat} {a : Nat} {ref host : String} {ty0 : Nat → FieldType} {S' : ST} (hC : Cx p s m c own cc nL args D cy) (hw : InW D w A H0 H locs S) (hin : ∀ x ∈ u_ws C T N, x ∈ tbG) (hty : ∀ k, k < N → parseFieldDescriptor (T k).2.2.1 = some (ty0 k)) (hnm : ∀ a, a < N → ∀ b, b < N → a ≠ b → (T a).2.1 ≠ (T b).2.1) (q0 ci k : Nat) {fs : List Value} {v : Value} {ty : FieldType} (he : (w S)[q0]? = some (a, .inr (ci, fs))) (hcl : vwCl[ci]? = some (C, T, N)) (hk : k < N) (hlk : Cond.fieldLinkNest own index ref (T k).2.1 (T k).2.2.1 host ∈ nwL) (hrf : (T k).1 = ref) (hfin : (T k).2.2.2 = false) (hd : parseFieldDescriptor (T k).2.2.1 = some ty) (hn : narrow ty v = v) (hfit : fits ty v = true) (hl : k < fs.length) (hset : (w S).set q0 (a, .inr (ci, fs.set k v)) = w S') (d : decode cc pc = .ok (.putfield index, 3)) {cells slots : Nat}
    (kk : ∀ (H1 : Heap) (locs1 : List Loc), InW D w A H0 H1 locs1 S' → W p l e R s m args below meth c H1 locs1 cells slots Q (F0 m (pc + 3) ls rest)) : W p l e R s m args below meth c H locs cells slots Q (F0 m pc ls (v :: .ref a :: rest)) :=
  va_putN hC.1 hC.2.1 hC.2.2.2.2.1 hin ty0 hty hnm hC.2.2.2.1 hC.2.2.2.2.2.1 hw.1 hw.2.1 hw.2.2.1 q0 he hcl k hk (va_Nw.use rfl (hC.2.2.2.2.2.2 _ hlk)) (fun _ h => hrf ▸ h) hfin hd hn hfit hl d (fun H1 locs1 h1 h2 h3 => kk H1 locs1 ⟨hset ▸ h1, hset ▸ h2, h3, hw.2.2.2⟩)
theorem ga {a n j : Nat} {i : Int32} (hC : Cx p s m c own cc nL args D cy) (hw : InW D w A H0 H locs S) (q0 : Nat) (ha : (w S)[q0]? = some (a, .inl (cy, n, .inl (stR S j)))) (hb : inB i n = true) (d : decode cc pc = .ok (.iaload, 1)) {cells slots : Nat}
    (kk : W p l e R s m args below meth c H locs cells slots Q (F0 m (pc + 1) ls (.int (rdA S j i) :: rest))) : W p l e R s m args below meth c H locs cells slots Q (F0 m pc ls (.int i :: .ref a :: rest)) :=
  va_iald hC.1 hC.2.1 hC.2.2.2.2.2.1 hw.1 q0 0 ha rfl (inB_vp hb) d kk
theorem pa {a n j : Nat} {i x : Int32} (hC : Cx p s m c own cc nL args D cy) (hw : InW D w A H0 H locs S) (q0 : Nat) (ha : (w S)[q0]? = some (a, .inl (cy, n, .inl (stR S j)))) (hb : inB i n = true) (hset : ∀ f, (w S).set q0 (a, .inl (cy, n, .inl f)) = w (puR S j f)) (d : decode cc pc = .ok (.iastore, 1)) {cells slots : Nat}
    (kk : ∀ (H1 : Heap) (locs1 : List Loc), InW D w A H0 H1 locs1 (wrA S j i x) → W p l e R s m args below meth c H1 locs1 cells slots Q (F0 m (pc + 1) ls rest)) : W p l e R s m args below meth c H locs cells slots Q (F0 m pc ls (.int x :: .int i :: .ref a :: rest)) :=
  va_iast hC.1 hC.2.1 hC.2.2.2.2.2.1 hw.1 hw.2.1 hw.2.2.1 q0 0 ha rfl (inB_vp hb) d (fun H1 locs1 h1 h2 h3 => kk H1 locs1 ⟨hset _ ▸ h1, hset _ ▸ h2, h3, hw.2.2.2⟩)
theorem al {a n j : Nat} {v : Int32} (hC : Cx p s m c own cc nL args D cy) (hw : InW D w A H0 H locs S) (q0 : Nat) (ha : (w S)[q0]? = some (a, .inl (cy, n, .inl (stR S j)))) (hv : Int32.ofNat n = v) (d : decode cc pc = .ok (.arraylength, 1)) {cells slots : Nat}
    (kk : W p l e R s m args below meth c H locs cells slots Q (F0 m (pc + 1) ls (.int v :: rest))) : W p l e R s m args below meth c H locs cells slots Q (F0 m pc ls (.ref a :: rest)) :=
  va_alen hC.1 hC.2.1 hC.2.2.2.2.2.1 hw.1 q0 0 ha rfl hv d kk
end BW
/-! the two worlds: the class's fourteen cells, the reference's sixteen -/
def wD (cy : ClassId) (a : Nat → Nat) (S : ST) : va_W := [
  (a 0, .inr (4, [.ref (a 1), .ref (a 3), .ref (a 5), .ref (a 9), .ref (a 13), .int (stI S 0), .int (stI S 1), .int (stI S 2), .int (stI S 3)])),
  (a 1, .inr (3, [.ref (a 2), .int (stI S 4)])),
  (a 2, .inl (cy, 10, .inl (stR S 0))),
  (a 3, .inr (2, [.ref (a 4), .int (stI S 5)])),
  (a 4, .inl (cy, 6, .inl (stR S 1))),
  (a 5, .inr (0, [.ref (a 3), .ref (a 6), .ref (a 7), .ref (a 8), .int (stI S 6), .long (stL S 0), .int (stI S 7), .int (stI S 8)])),
  (a 6, .inl (cy, 5, .inl (stR S 2))),
  (a 7, .inl (cy, 5, .inl (stR S 3))),
  (a 8, .inl (cy, 5, .inl (stR S 4))),
  (a 9, .inr (0, [.ref (a 3), .ref (a 10), .ref (a 11), .ref (a 12), .int (stI S 9), .long (stL S 1), .int (stI S 10), .int (stI S 11)])),
  (a 10, .inl (cy, 5, .inl (stR S 5))),
  (a 11, .inl (cy, 5, .inl (stR S 6))),
  (a 12, .inl (cy, 5, .inl (stR S 7))),
  (a 13, .inr (1, [.ref (a 3), .ref (a 5)]))]
def wM (cy : ClassId) (a : Nat → Nat) (S : ST) : va_W := [
  (a 0, .inr (5, [.ref (a 1), .int (stI S 0), .int (stI S 1), .int (stI S 2), .int (stI S 3), .ref (a 2), .int (stI S 4), .ref (a 3), .ref (a 4), .ref (a 5), .ref (a 6), .ref (a 7), .ref (a 8), .int (stI S 5), .int (stI S 6), .ref (a 9), .int (stI S 7), .ref (a 10), .ref (a 11), .int (stI S 8), .int (stI S 9), .int (stI S 10), .int (stI S 11), .int (stI S 12), .ref (a 12), .ref (a 13), .ref (a 14), .ref (a 15), .long (stL S 0)])),
  (a 1, .inl (cy, 10, .inl (stR S 0))),
  (a 2, .inl (cy, 6, .inl (stR S 1))),
  (a 3, .inl (cy, 10, .inl (stR S 2))),
  (a 4, .inl (cy, 5, .inl (stR S 3))),
  (a 5, .inl (cy, 5, .inl (stR S 4))),
  (a 6, .inl (cy, 5, .inl (stR S 5))),
  (a 7, .inl (cy, 5, .inl (stR S 6))),
  (a 8, .inl (cy, 5, .inl (stR S 7))),
  (a 9, .inl (cy, 4, .inl (stR S 8))),
  (a 10, .inl (cy, 5, .inl (stR S 9))),
  (a 11, .inl (cy, 5, .inl (stR S 10))),
  (a 12, .inl (cy, 10, .inl (stR S 11))),
  (a 13, .inl (cy, 5, .inl (stR S 12))),
  (a 14, .inl (cy, 5, .inl (stR S 13))),
  (a 15, .inl (cy, 5, .inl (stR S 14)))]
theorem sD_0_5 (cy : ClassId) (a : Nat → Nat) (S : ST) (v : Int32) : (wD cy a S).set 0 (a 0, .inr (4, ([.ref (a 1), .ref (a 3), .ref (a 5), .ref (a 9), .ref (a 13), .int (stI S 0), .int (stI S 1), .int (stI S 2), .int (stI S 3)] : List Value).set 5 (.int v))) = wD cy a (puI S 0 v) := rfl
theorem sD_0_6 (cy : ClassId) (a : Nat → Nat) (S : ST) (v : Int32) : (wD cy a S).set 0 (a 0, .inr (4, ([.ref (a 1), .ref (a 3), .ref (a 5), .ref (a 9), .ref (a 13), .int (stI S 0), .int (stI S 1), .int (stI S 2), .int (stI S 3)] : List Value).set 6 (.int v))) = wD cy a (puI S 1 v) := rfl
theorem sD_0_7 (cy : ClassId) (a : Nat → Nat) (S : ST) (v : Int32) : (wD cy a S).set 0 (a 0, .inr (4, ([.ref (a 1), .ref (a 3), .ref (a 5), .ref (a 9), .ref (a 13), .int (stI S 0), .int (stI S 1), .int (stI S 2), .int (stI S 3)] : List Value).set 7 (.int v))) = wD cy a (puI S 2 v) := rfl
theorem sD_0_8 (cy : ClassId) (a : Nat → Nat) (S : ST) (v : Int32) : (wD cy a S).set 0 (a 0, .inr (4, ([.ref (a 1), .ref (a 3), .ref (a 5), .ref (a 9), .ref (a 13), .int (stI S 0), .int (stI S 1), .int (stI S 2), .int (stI S 3)] : List Value).set 8 (.int v))) = wD cy a (puI S 3 v) := rfl
theorem sD_1_1 (cy : ClassId) (a : Nat → Nat) (S : ST) (v : Int32) : (wD cy a S).set 1 (a 1, .inr (3, ([.ref (a 2), .int (stI S 4)] : List Value).set 1 (.int v))) = wD cy a (puI S 4 v) := rfl
theorem sD_3_1 (cy : ClassId) (a : Nat → Nat) (S : ST) (v : Int32) : (wD cy a S).set 3 (a 3, .inr (2, ([.ref (a 4), .int (stI S 5)] : List Value).set 1 (.int v))) = wD cy a (puI S 5 v) := rfl
theorem sD_5_4 (cy : ClassId) (a : Nat → Nat) (S : ST) (v : Int32) : (wD cy a S).set 5 (a 5, .inr (0, ([.ref (a 3), .ref (a 6), .ref (a 7), .ref (a 8), .int (stI S 6), .long (stL S 0), .int (stI S 7), .int (stI S 8)] : List Value).set 4 (.int v))) = wD cy a (puI S 6 v) := rfl
theorem sD_5_5 (cy : ClassId) (a : Nat → Nat) (S : ST) (v : Int64) : (wD cy a S).set 5 (a 5, .inr (0, ([.ref (a 3), .ref (a 6), .ref (a 7), .ref (a 8), .int (stI S 6), .long (stL S 0), .int (stI S 7), .int (stI S 8)] : List Value).set 5 (.long v))) = wD cy a (puL S 0 v) := rfl
theorem sD_5_6 (cy : ClassId) (a : Nat → Nat) (S : ST) (v : Int32) : (wD cy a S).set 5 (a 5, .inr (0, ([.ref (a 3), .ref (a 6), .ref (a 7), .ref (a 8), .int (stI S 6), .long (stL S 0), .int (stI S 7), .int (stI S 8)] : List Value).set 6 (.int v))) = wD cy a (puI S 7 v) := rfl
theorem sD_5_7 (cy : ClassId) (a : Nat → Nat) (S : ST) (v : Int32) : (wD cy a S).set 5 (a 5, .inr (0, ([.ref (a 3), .ref (a 6), .ref (a 7), .ref (a 8), .int (stI S 6), .long (stL S 0), .int (stI S 7), .int (stI S 8)] : List Value).set 7 (.int v))) = wD cy a (puI S 8 v) := rfl
theorem sD_9_4 (cy : ClassId) (a : Nat → Nat) (S : ST) (v : Int32) : (wD cy a S).set 9 (a 9, .inr (0, ([.ref (a 3), .ref (a 10), .ref (a 11), .ref (a 12), .int (stI S 9), .long (stL S 1), .int (stI S 10), .int (stI S 11)] : List Value).set 4 (.int v))) = wD cy a (puI S 9 v) := rfl
theorem sD_9_5 (cy : ClassId) (a : Nat → Nat) (S : ST) (v : Int64) : (wD cy a S).set 9 (a 9, .inr (0, ([.ref (a 3), .ref (a 10), .ref (a 11), .ref (a 12), .int (stI S 9), .long (stL S 1), .int (stI S 10), .int (stI S 11)] : List Value).set 5 (.long v))) = wD cy a (puL S 1 v) := rfl
theorem sD_9_6 (cy : ClassId) (a : Nat → Nat) (S : ST) (v : Int32) : (wD cy a S).set 9 (a 9, .inr (0, ([.ref (a 3), .ref (a 10), .ref (a 11), .ref (a 12), .int (stI S 9), .long (stL S 1), .int (stI S 10), .int (stI S 11)] : List Value).set 6 (.int v))) = wD cy a (puI S 10 v) := rfl
theorem sD_9_7 (cy : ClassId) (a : Nat → Nat) (S : ST) (v : Int32) : (wD cy a S).set 9 (a 9, .inr (0, ([.ref (a 3), .ref (a 10), .ref (a 11), .ref (a 12), .int (stI S 9), .long (stL S 1), .int (stI S 10), .int (stI S 11)] : List Value).set 7 (.int v))) = wD cy a (puI S 11 v) := rfl
theorem rD_2 (cy : ClassId) (a : Nat → Nat) (S : ST) (f : Nat → Int32) : (wD cy a S).set 2 (a 2, .inl (cy, 10, .inl f)) = wD cy a (puR S 0 f) := rfl
theorem rD_4 (cy : ClassId) (a : Nat → Nat) (S : ST) (f : Nat → Int32) : (wD cy a S).set 4 (a 4, .inl (cy, 6, .inl f)) = wD cy a (puR S 1 f) := rfl
theorem rD_6 (cy : ClassId) (a : Nat → Nat) (S : ST) (f : Nat → Int32) : (wD cy a S).set 6 (a 6, .inl (cy, 5, .inl f)) = wD cy a (puR S 2 f) := rfl
theorem rD_7 (cy : ClassId) (a : Nat → Nat) (S : ST) (f : Nat → Int32) : (wD cy a S).set 7 (a 7, .inl (cy, 5, .inl f)) = wD cy a (puR S 3 f) := rfl
theorem rD_8 (cy : ClassId) (a : Nat → Nat) (S : ST) (f : Nat → Int32) : (wD cy a S).set 8 (a 8, .inl (cy, 5, .inl f)) = wD cy a (puR S 4 f) := rfl
theorem rD_10 (cy : ClassId) (a : Nat → Nat) (S : ST) (f : Nat → Int32) : (wD cy a S).set 10 (a 10, .inl (cy, 5, .inl f)) = wD cy a (puR S 5 f) := rfl
theorem rD_11 (cy : ClassId) (a : Nat → Nat) (S : ST) (f : Nat → Int32) : (wD cy a S).set 11 (a 11, .inl (cy, 5, .inl f)) = wD cy a (puR S 6 f) := rfl
theorem rD_12 (cy : ClassId) (a : Nat → Nat) (S : ST) (f : Nat → Int32) : (wD cy a S).set 12 (a 12, .inl (cy, 5, .inl f)) = wD cy a (puR S 7 f) := rfl
theorem sM_1 (cy : ClassId) (a : Nat → Nat) (S : ST) (v : Int32) : (wM cy a S).set 0 (a 0, .inr (5, ([.ref (a 1), .int (stI S 0), .int (stI S 1), .int (stI S 2), .int (stI S 3), .ref (a 2), .int (stI S 4), .ref (a 3), .ref (a 4), .ref (a 5), .ref (a 6), .ref (a 7), .ref (a 8), .int (stI S 5), .int (stI S 6), .ref (a 9), .int (stI S 7), .ref (a 10), .ref (a 11), .int (stI S 8), .int (stI S 9), .int (stI S 10), .int (stI S 11), .int (stI S 12), .ref (a 12), .ref (a 13), .ref (a 14), .ref (a 15), .long (stL S 0)] : List Value).set 1 (.int v))) = wM cy a (puI S 0 v) := rfl
theorem sM_2 (cy : ClassId) (a : Nat → Nat) (S : ST) (v : Int32) : (wM cy a S).set 0 (a 0, .inr (5, ([.ref (a 1), .int (stI S 0), .int (stI S 1), .int (stI S 2), .int (stI S 3), .ref (a 2), .int (stI S 4), .ref (a 3), .ref (a 4), .ref (a 5), .ref (a 6), .ref (a 7), .ref (a 8), .int (stI S 5), .int (stI S 6), .ref (a 9), .int (stI S 7), .ref (a 10), .ref (a 11), .int (stI S 8), .int (stI S 9), .int (stI S 10), .int (stI S 11), .int (stI S 12), .ref (a 12), .ref (a 13), .ref (a 14), .ref (a 15), .long (stL S 0)] : List Value).set 2 (.int v))) = wM cy a (puI S 1 v) := rfl
theorem sM_3 (cy : ClassId) (a : Nat → Nat) (S : ST) (v : Int32) : (wM cy a S).set 0 (a 0, .inr (5, ([.ref (a 1), .int (stI S 0), .int (stI S 1), .int (stI S 2), .int (stI S 3), .ref (a 2), .int (stI S 4), .ref (a 3), .ref (a 4), .ref (a 5), .ref (a 6), .ref (a 7), .ref (a 8), .int (stI S 5), .int (stI S 6), .ref (a 9), .int (stI S 7), .ref (a 10), .ref (a 11), .int (stI S 8), .int (stI S 9), .int (stI S 10), .int (stI S 11), .int (stI S 12), .ref (a 12), .ref (a 13), .ref (a 14), .ref (a 15), .long (stL S 0)] : List Value).set 3 (.int v))) = wM cy a (puI S 2 v) := rfl
theorem sM_4 (cy : ClassId) (a : Nat → Nat) (S : ST) (v : Int32) : (wM cy a S).set 0 (a 0, .inr (5, ([.ref (a 1), .int (stI S 0), .int (stI S 1), .int (stI S 2), .int (stI S 3), .ref (a 2), .int (stI S 4), .ref (a 3), .ref (a 4), .ref (a 5), .ref (a 6), .ref (a 7), .ref (a 8), .int (stI S 5), .int (stI S 6), .ref (a 9), .int (stI S 7), .ref (a 10), .ref (a 11), .int (stI S 8), .int (stI S 9), .int (stI S 10), .int (stI S 11), .int (stI S 12), .ref (a 12), .ref (a 13), .ref (a 14), .ref (a 15), .long (stL S 0)] : List Value).set 4 (.int v))) = wM cy a (puI S 3 v) := rfl
theorem sM_6 (cy : ClassId) (a : Nat → Nat) (S : ST) (v : Int32) : (wM cy a S).set 0 (a 0, .inr (5, ([.ref (a 1), .int (stI S 0), .int (stI S 1), .int (stI S 2), .int (stI S 3), .ref (a 2), .int (stI S 4), .ref (a 3), .ref (a 4), .ref (a 5), .ref (a 6), .ref (a 7), .ref (a 8), .int (stI S 5), .int (stI S 6), .ref (a 9), .int (stI S 7), .ref (a 10), .ref (a 11), .int (stI S 8), .int (stI S 9), .int (stI S 10), .int (stI S 11), .int (stI S 12), .ref (a 12), .ref (a 13), .ref (a 14), .ref (a 15), .long (stL S 0)] : List Value).set 6 (.int v))) = wM cy a (puI S 4 v) := rfl
theorem sM_13 (cy : ClassId) (a : Nat → Nat) (S : ST) (v : Int32) : (wM cy a S).set 0 (a 0, .inr (5, ([.ref (a 1), .int (stI S 0), .int (stI S 1), .int (stI S 2), .int (stI S 3), .ref (a 2), .int (stI S 4), .ref (a 3), .ref (a 4), .ref (a 5), .ref (a 6), .ref (a 7), .ref (a 8), .int (stI S 5), .int (stI S 6), .ref (a 9), .int (stI S 7), .ref (a 10), .ref (a 11), .int (stI S 8), .int (stI S 9), .int (stI S 10), .int (stI S 11), .int (stI S 12), .ref (a 12), .ref (a 13), .ref (a 14), .ref (a 15), .long (stL S 0)] : List Value).set 13 (.int v))) = wM cy a (puI S 5 v) := rfl
theorem sM_14 (cy : ClassId) (a : Nat → Nat) (S : ST) (v : Int32) : (wM cy a S).set 0 (a 0, .inr (5, ([.ref (a 1), .int (stI S 0), .int (stI S 1), .int (stI S 2), .int (stI S 3), .ref (a 2), .int (stI S 4), .ref (a 3), .ref (a 4), .ref (a 5), .ref (a 6), .ref (a 7), .ref (a 8), .int (stI S 5), .int (stI S 6), .ref (a 9), .int (stI S 7), .ref (a 10), .ref (a 11), .int (stI S 8), .int (stI S 9), .int (stI S 10), .int (stI S 11), .int (stI S 12), .ref (a 12), .ref (a 13), .ref (a 14), .ref (a 15), .long (stL S 0)] : List Value).set 14 (.int v))) = wM cy a (puI S 6 v) := rfl
theorem sM_16 (cy : ClassId) (a : Nat → Nat) (S : ST) (v : Int32) : (wM cy a S).set 0 (a 0, .inr (5, ([.ref (a 1), .int (stI S 0), .int (stI S 1), .int (stI S 2), .int (stI S 3), .ref (a 2), .int (stI S 4), .ref (a 3), .ref (a 4), .ref (a 5), .ref (a 6), .ref (a 7), .ref (a 8), .int (stI S 5), .int (stI S 6), .ref (a 9), .int (stI S 7), .ref (a 10), .ref (a 11), .int (stI S 8), .int (stI S 9), .int (stI S 10), .int (stI S 11), .int (stI S 12), .ref (a 12), .ref (a 13), .ref (a 14), .ref (a 15), .long (stL S 0)] : List Value).set 16 (.int v))) = wM cy a (puI S 7 v) := rfl
theorem sM_19 (cy : ClassId) (a : Nat → Nat) (S : ST) (v : Int32) : (wM cy a S).set 0 (a 0, .inr (5, ([.ref (a 1), .int (stI S 0), .int (stI S 1), .int (stI S 2), .int (stI S 3), .ref (a 2), .int (stI S 4), .ref (a 3), .ref (a 4), .ref (a 5), .ref (a 6), .ref (a 7), .ref (a 8), .int (stI S 5), .int (stI S 6), .ref (a 9), .int (stI S 7), .ref (a 10), .ref (a 11), .int (stI S 8), .int (stI S 9), .int (stI S 10), .int (stI S 11), .int (stI S 12), .ref (a 12), .ref (a 13), .ref (a 14), .ref (a 15), .long (stL S 0)] : List Value).set 19 (.int v))) = wM cy a (puI S 8 v) := rfl
theorem sM_20 (cy : ClassId) (a : Nat → Nat) (S : ST) (v : Int32) : (wM cy a S).set 0 (a 0, .inr (5, ([.ref (a 1), .int (stI S 0), .int (stI S 1), .int (stI S 2), .int (stI S 3), .ref (a 2), .int (stI S 4), .ref (a 3), .ref (a 4), .ref (a 5), .ref (a 6), .ref (a 7), .ref (a 8), .int (stI S 5), .int (stI S 6), .ref (a 9), .int (stI S 7), .ref (a 10), .ref (a 11), .int (stI S 8), .int (stI S 9), .int (stI S 10), .int (stI S 11), .int (stI S 12), .ref (a 12), .ref (a 13), .ref (a 14), .ref (a 15), .long (stL S 0)] : List Value).set 20 (.int v))) = wM cy a (puI S 9 v) := rfl
theorem sM_21 (cy : ClassId) (a : Nat → Nat) (S : ST) (v : Int32) : (wM cy a S).set 0 (a 0, .inr (5, ([.ref (a 1), .int (stI S 0), .int (stI S 1), .int (stI S 2), .int (stI S 3), .ref (a 2), .int (stI S 4), .ref (a 3), .ref (a 4), .ref (a 5), .ref (a 6), .ref (a 7), .ref (a 8), .int (stI S 5), .int (stI S 6), .ref (a 9), .int (stI S 7), .ref (a 10), .ref (a 11), .int (stI S 8), .int (stI S 9), .int (stI S 10), .int (stI S 11), .int (stI S 12), .ref (a 12), .ref (a 13), .ref (a 14), .ref (a 15), .long (stL S 0)] : List Value).set 21 (.int v))) = wM cy a (puI S 10 v) := rfl
theorem sM_22 (cy : ClassId) (a : Nat → Nat) (S : ST) (v : Int32) : (wM cy a S).set 0 (a 0, .inr (5, ([.ref (a 1), .int (stI S 0), .int (stI S 1), .int (stI S 2), .int (stI S 3), .ref (a 2), .int (stI S 4), .ref (a 3), .ref (a 4), .ref (a 5), .ref (a 6), .ref (a 7), .ref (a 8), .int (stI S 5), .int (stI S 6), .ref (a 9), .int (stI S 7), .ref (a 10), .ref (a 11), .int (stI S 8), .int (stI S 9), .int (stI S 10), .int (stI S 11), .int (stI S 12), .ref (a 12), .ref (a 13), .ref (a 14), .ref (a 15), .long (stL S 0)] : List Value).set 22 (.int v))) = wM cy a (puI S 11 v) := rfl
theorem sM_23 (cy : ClassId) (a : Nat → Nat) (S : ST) (v : Int32) : (wM cy a S).set 0 (a 0, .inr (5, ([.ref (a 1), .int (stI S 0), .int (stI S 1), .int (stI S 2), .int (stI S 3), .ref (a 2), .int (stI S 4), .ref (a 3), .ref (a 4), .ref (a 5), .ref (a 6), .ref (a 7), .ref (a 8), .int (stI S 5), .int (stI S 6), .ref (a 9), .int (stI S 7), .ref (a 10), .ref (a 11), .int (stI S 8), .int (stI S 9), .int (stI S 10), .int (stI S 11), .int (stI S 12), .ref (a 12), .ref (a 13), .ref (a 14), .ref (a 15), .long (stL S 0)] : List Value).set 23 (.int v))) = wM cy a (puI S 12 v) := rfl
theorem sM_28 (cy : ClassId) (a : Nat → Nat) (S : ST) (v : Int64) : (wM cy a S).set 0 (a 0, .inr (5, ([.ref (a 1), .int (stI S 0), .int (stI S 1), .int (stI S 2), .int (stI S 3), .ref (a 2), .int (stI S 4), .ref (a 3), .ref (a 4), .ref (a 5), .ref (a 6), .ref (a 7), .ref (a 8), .int (stI S 5), .int (stI S 6), .ref (a 9), .int (stI S 7), .ref (a 10), .ref (a 11), .int (stI S 8), .int (stI S 9), .int (stI S 10), .int (stI S 11), .int (stI S 12), .ref (a 12), .ref (a 13), .ref (a 14), .ref (a 15), .long (stL S 0)] : List Value).set 28 (.long v))) = wM cy a (puL S 0 v) := rfl
theorem rM_1 (cy : ClassId) (a : Nat → Nat) (S : ST) (f : Nat → Int32) : (wM cy a S).set 1 (a 1, .inl (cy, 10, .inl f)) = wM cy a (puR S 0 f) := rfl
theorem rM_2 (cy : ClassId) (a : Nat → Nat) (S : ST) (f : Nat → Int32) : (wM cy a S).set 2 (a 2, .inl (cy, 6, .inl f)) = wM cy a (puR S 1 f) := rfl
theorem rM_3 (cy : ClassId) (a : Nat → Nat) (S : ST) (f : Nat → Int32) : (wM cy a S).set 3 (a 3, .inl (cy, 10, .inl f)) = wM cy a (puR S 2 f) := rfl
theorem rM_4 (cy : ClassId) (a : Nat → Nat) (S : ST) (f : Nat → Int32) : (wM cy a S).set 4 (a 4, .inl (cy, 5, .inl f)) = wM cy a (puR S 3 f) := rfl
theorem rM_5 (cy : ClassId) (a : Nat → Nat) (S : ST) (f : Nat → Int32) : (wM cy a S).set 5 (a 5, .inl (cy, 5, .inl f)) = wM cy a (puR S 4 f) := rfl
theorem rM_6 (cy : ClassId) (a : Nat → Nat) (S : ST) (f : Nat → Int32) : (wM cy a S).set 6 (a 6, .inl (cy, 5, .inl f)) = wM cy a (puR S 5 f) := rfl
theorem rM_7 (cy : ClassId) (a : Nat → Nat) (S : ST) (f : Nat → Int32) : (wM cy a S).set 7 (a 7, .inl (cy, 5, .inl f)) = wM cy a (puR S 6 f) := rfl
theorem rM_8 (cy : ClassId) (a : Nat → Nat) (S : ST) (f : Nat → Int32) : (wM cy a S).set 8 (a 8, .inl (cy, 5, .inl f)) = wM cy a (puR S 7 f) := rfl
theorem rM_9 (cy : ClassId) (a : Nat → Nat) (S : ST) (f : Nat → Int32) : (wM cy a S).set 9 (a 9, .inl (cy, 4, .inl f)) = wM cy a (puR S 8 f) := rfl
theorem rM_10 (cy : ClassId) (a : Nat → Nat) (S : ST) (f : Nat → Int32) : (wM cy a S).set 10 (a 10, .inl (cy, 5, .inl f)) = wM cy a (puR S 9 f) := rfl
theorem rM_11 (cy : ClassId) (a : Nat → Nat) (S : ST) (f : Nat → Int32) : (wM cy a S).set 11 (a 11, .inl (cy, 5, .inl f)) = wM cy a (puR S 10 f) := rfl
theorem rM_12 (cy : ClassId) (a : Nat → Nat) (S : ST) (f : Nat → Int32) : (wM cy a S).set 12 (a 12, .inl (cy, 10, .inl f)) = wM cy a (puR S 11 f) := rfl
theorem rM_13 (cy : ClassId) (a : Nat → Nat) (S : ST) (f : Nat → Int32) : (wM cy a S).set 13 (a 13, .inl (cy, 5, .inl f)) = wM cy a (puR S 12 f) := rfl
theorem rM_14 (cy : ClassId) (a : Nat → Nat) (S : ST) (f : Nat → Int32) : (wM cy a S).set 14 (a 14, .inl (cy, 5, .inl f)) = wM cy a (puR S 13 f) := rfl
theorem rM_15 (cy : ClassId) (a : Nat → Nat) (S : ST) (f : Nat → Int32) : (wM cy a S).set 15 (a 15, .inl (cy, 5, .inl f)) = wM cy a (puR S 14 f) := rfl
theorem lm_RX6_9 : Cond.methodLinkNest RX6 9 yX4_init "BurntLetters" ∈ nwL := nw_at 23 (by decide +kernel) rfl
theorem lf_RX6_241 : Cond.fieldLinkNest RX6 241 "BurntLetters$Page" "size" "I" "BurntLetters" ∈ nwL := nw_at 29 (by decide +kernel) rfl
theorem lm_RX6_18 : Cond.methodLinkNest RX6 18 yX3_init "BurntLetters" ∈ nwL := nw_at 38 (by decide +kernel) rfl
theorem lf_RX6_76 : Cond.fieldLinkNest RX6 76 "BurntLetters$Law" "room" "I" "BurntLetters" ∈ nwL := nw_at 44 (by decide +kernel) rfl
theorem lf_RX0_65 : Cond.fieldLinkNest RX0 65 "BurntLetters$Law" "room" "I" "BurntLetters" ∈ nwL := nw_at 45 (by decide +kernel) rfl
theorem lf_RX6_112 : Cond.fieldLinkNest RX6 112 "BurntLetters$Archive" "files" "I" "BurntLetters" ∈ nwL := nw_at 62 (by decide +kernel) rfl
theorem lf_RX1_49 : Cond.fieldLinkNest RX1 49 "BurntLetters$Archive" "shelf" "J" "BurntLetters" ∈ nwL := nw_at 64 (by decide +kernel) rfl
theorem lf_RX6_90 : Cond.fieldLinkNest RX6 90 "BurntLetters$Archive" "shelf" "J" "BurntLetters" ∈ nwL := nw_at 65 (by decide +kernel) rfl
theorem lf_RX6_238 : Cond.fieldLinkNest RX6 238 "BurntLetters$Archive" "years" "I" "BurntLetters" ∈ nwL := nw_at 67 (by decide +kernel) rfl
theorem lf_RX1_99 : Cond.fieldLinkNest RX1 99 "BurntLetters$Archive" "ashYears" "I" "BurntLetters" ∈ nwL := nw_at 69 (by decide +kernel) rfl
theorem lf_RX6_197 : Cond.fieldLinkNest RX6 197 "BurntLetters$Archive" "ashYears" "I" "BurntLetters" ∈ nwL := nw_at 70 (by decide +kernel) rfl
theorem lm_RX4_34 : Cond.methodLinkNest RX4 34 yX6_within "BurntLetters" ∈ nwL := nw_at 169 (by decide +kernel) rfl
theorem lm_RX2_11 : Cond.methodLinkNest RX2 11 yX6_within "BurntLetters" ∈ nwL := nw_at 219 (by decide +kernel) rfl
theorem lm_RX0_45 : Cond.methodLinkNest RX0 45 yX6_within "BurntLetters" ∈ nwL := nw_at 244 (by decide +kernel) rfl
theorem lm_RX6_171 : Cond.methodLinkNest RX6 171 yX1_waysToLive "BurntLetters" ∈ nwL := nw_at 370 (by decide +kernel) rfl
theorem lm_RX1_110 : Cond.methodLinkNest RX1 110 yX6_power "BurntLetters" ∈ nwL := nw_at 485 (by decide +kernel) rfl
