def FU : Nat := 1000000000
def Rel (SD SM : ST) : Prop := True
theorem rel_init : Rel SD0 SM0 := trivial
theorem op_letter {SD SM : ST} (hR : Rel SD SM) (x1 : Int32) : ∃ (r : Int32) (SD1 : ST) (SM1 : ST), m_X6_letter FU x1 SD = some (r, SD1) ∧ m_X7_letter FU x1 SM = some (r, SM1) ∧ Rel SD1 SM1 := sorry
theorem op_blank {SD SM : ST} (hR : Rel SD SM) : ∃ (r : Int32) (SD1 : ST) (SM1 : ST), m_X6_blank FU SD = some (r, SD1) ∧ m_X7_blank FU SM = some (r, SM1) ∧ Rel SD1 SM1 := sorry
theorem op_fault {SD SM : ST} (hR : Rel SD SM) : ∃ (r : Int32), m_X6_fault FU SD = some r ∧ m_X7_fault FU SM = some r ∧ Rel SD SM := sorry
theorem op_law {SD SM : ST} (hR : Rel SD SM) : ∃ (r : Int32) (SD1 : ST) (SM1 : ST), m_X6_law FU SD = some (r, SD1) ∧ m_X7_law FU SM = some (r, SM1) ∧ Rel SD1 SM1 := sorry
theorem op_under {SD SM : ST} (hR : Rel SD SM) (x1 x2 : Int32) : ∃ (r : Int32), m_X6_under FU x1 x2 SD = some r ∧ m_X7_under FU x1 x2 SM = some r ∧ Rel SD SM := sorry
theorem op_file {SD SM : ST} (hR : Rel SD SM) (x1 x2 : Int32) : ∃ (r : Int32) (SD1 : ST) (SM1 : ST), m_X6_file FU x1 x2 SD = some (r, SD1) ∧ m_X7_file FU x1 x2 SM = some (r, SM1) ∧ Rel SD1 SM1 := sorry
theorem op_about {SD SM : ST} (hR : Rel SD SM) (x1 x2 : Int32) : ∃ (r : Int32), m_X6_about FU x1 x2 SD = some r ∧ m_X7_about FU x1 x2 SM = some r ∧ Rel SD SM := sorry
theorem op_as {SD SM : ST} (hR : Rel SD SM) (x1 x2 : Int32) : ∃ (r : Int32), m_X6_as FU x1 x2 SD = some r ∧ m_X7_as FU x1 x2 SM = some r ∧ Rel SD SM := sorry
theorem op_copy {SD SM : ST} (hR : Rel SD SM) (x1 x2 : Int32) : ∃ (r : Int32) (SD1 : ST) (SM1 : ST), m_X6_copy FU x1 x2 SD = some (r, SD1) ∧ m_X7_copy FU x1 x2 SM = some (r, SM1) ∧ Rel SD1 SM1 := sorry
theorem op_rename {SD SM : ST} (hR : Rel SD SM) (x1 x2 x3 : Int32) : ∃ (r : Int32) (SD1 : ST) (SM1 : ST), m_X6_rename FU x1 x2 x3 SD = some (r, SD1) ∧ m_X7_rename FU x1 x2 x3 SM = some (r, SM1) ∧ Rel SD1 SM1 := sorry
theorem op_point {SD SM : ST} (hR : Rel SD SM) (x1 x2 : Int32) : ∃ (r : Int32) (SD1 : ST) (SM1 : ST), m_X6_point FU x1 x2 SD = some (r, SD1) ∧ m_X7_point FU x1 x2 SM = some (r, SM1) ∧ Rel SD1 SM1 := sorry
theorem op_burn {SD SM : ST} (hR : Rel SD SM) (x1 : Int32) : ∃ (r : Int32) (SD1 : ST) (SM1 : ST), m_X6_burn FU x1 SD = some (r, SD1) ∧ m_X7_burn FU x1 SM = some (r, SM1) ∧ Rel SD1 SM1 := sorry
theorem op_odds {SD SM : ST} (hR : Rel SD SM) (x1 x2 x3 : Int32) : ∃ (r : Int32) (SM1 : ST), m_X6_odds FU x1 x2 x3 SD = some r ∧ m_X7_odds FU x1 x2 x3 SM = some (r, SM1) ∧ Rel SD SM1 := sorry
theorem op_where {SD SM : ST} (hR : Rel SD SM) (x1 x2 : Int32) : ∃ (r : Int32) (SM1 : ST), m_X6_where FU x1 x2 SD = some r ∧ m_X7_where FU x1 x2 SM = some (r, SM1) ∧ Rel SD SM1 := sorry
theorem op_sure {SD SM : ST} (hR : Rel SD SM) (x1 x2 x3 : Int32) : ∃ (r : Int32) (SD1 : ST) (SM1 : ST), m_X6_sure FU x1 x2 x3 SD = some (r, SD1) ∧ m_X7_sure FU x1 x2 x3 SM = some (r, SM1) ∧ Rel SD1 SM1 := sorry
theorem op_nowhere {SD SM : ST} (hR : Rel SD SM) : ∃ (r : Int32), m_X6_nowhere FU SD = some r ∧ m_X7_nowhere FU SM = some r ∧ Rel SD SM := sorry
theorem op_moving {SD SM : ST} (hR : Rel SD SM) (x1 : Int32) : ∃ (r : Int32) (SD1 : ST) (SM1 : ST), m_X6_moving FU x1 SD = some (r, SD1) ∧ m_X7_moving FU x1 SM = some (r, SM1) ∧ Rel SD1 SM1 := sorry
theorem op_ashes {SD SM : ST} (hR : Rel SD SM) (x1 : Int32) : ∃ (r : Int32) (SD1 : ST) (SM1 : ST), m_X6_ashes FU x1 SD = some (r, SD1) ∧ m_X7_ashes FU x1 SM = some (r, SM1) ∧ Rel SD1 SM1 := sorry
theorem op_forget {SD SM : ST} (hR : Rel SD SM) : ∃ (r : Int32) (SD1 : ST) (SM1 : ST), m_X6_forget FU SD = some (r, SD1) ∧ m_X7_forget FU SM = some (r, SM1) ∧ Rel SD1 SM1 := sorry
theorem op_fits {SD SM : ST} (hR : Rel SD SM) : ∃ (r : Int32) (SM1 : ST), m_X6_fits FU SD = some r ∧ m_X7_fits FU SM = some (r, SM1) ∧ Rel SD SM1 := sorry
theorem op_burnt {SD SM : ST} (hR : Rel SD SM) (x1 : Int32) : ∃ (r : Int32) (SM1 : ST), m_X6_burnt FU x1 SD = some r ∧ m_X7_burnt FU x1 SM = some (r, SM1) ∧ Rel SD SM1 := sorry
theorem op_years {SD SM : ST} (hR : Rel SD SM) (x1 x2 x3 : Int32) : ∃ (r : Int32) (SM1 : ST), m_X6_years FU x1 x2 x3 SD = some r ∧ m_X7_years FU x1 x2 x3 SM = some (r, SM1) ∧ Rel SD SM1 := sorry
theorem op_image {SD SM : ST} (hR : Rel SD SM) : ∃ (r : Int32) (SD1 : ST) (SM1 : ST), m_X6_image FU SD = some (r, SD1) ∧ m_X7_image FU SM = some (r, SM1) ∧ Rel SD1 SM1 := sorry
theorem op_restore {SD SM : ST} (hR : Rel SD SM) : ∃ (r : Int32) (SD1 : ST) (SM1 : ST), m_X6_restore FU SD = some (r, SD1) ∧ m_X7_restore FU SM = some (r, SM1) ∧ Rel SD1 SM1 := sorry
theorem op_count {SD SM : ST} (hR : Rel SD SM) (x1 : Int32) : ∃ (r : Int32), m_X6_count FU x1 SD = some r ∧ m_X7_count FU x1 SM = some r ∧ Rel SD SM := sorry
theorem op_digest {SD SM : ST} (hR : Rel SD SM) : ∃ (r : Int64) (SM1 : ST), m_X6_digest FU SD = some r ∧ m_X7_digest FU SM = some (r, SM1) ∧ Rel SD SM1 := sorry
