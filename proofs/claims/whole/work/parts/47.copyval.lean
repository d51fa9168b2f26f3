/-! the reference copies a valley from a block to another -/
section CV
variable {E : Ev} {B : Bk}
def cvM (B : Bk) (a b : Int) : Bk := cpA (cpA (cpA (cpA (cpA (cpA (cpA B (mo + 6) (1 * a) (mo + 6) (1 * b) 1) (mo + 7) (15 * a) (mo + 7) (15 * b) 15) (mo + 8) (120 * a) (mo + 8) (120 * b) 120) (mo + 10) (24 * a) (mo + 10) (24 * b) 24) (mo + 11) (15 * a) (mo + 11) (15 * b) 15) (mo + 12) (96 * a) (mo + 12) (96 * b) 96) (mo + 13) (240 * a) (mo + 13) (240 * b) 240
theorem m_copyValley {a b : Int} (rm : mKd E mo) (a0 : 0 ≤ a) (a1 : a ≤ 4) (b0 : 0 ≤ b) (b1 : b ≤ 4) (hab : a ≠ b) : fX9_copyValley (E.1 + mo) (iI a) (iI b) (St E B) = some (St E (cvM B a b)) := by
  simp only [fX9_copyValley, c9 rm.1, g9_16 rm.1, g9_17 rm.1, g9_18 rm.1, g9_21 rm.1, g9_22 rm.1, g9_23 rm.1, g9_24 rm.1, some_bind,
    m_copyRow (m := 1) (a := a) (b := b) (mk6 rm) (by omega) (by omega) (by omega) (by omega) (by omega) (by omega) (by omega) (by omega),
    m_copyRow (m := 15) (a := a) (b := b) (mk7 rm) (by omega) (by omega) (by omega) (by omega) (by omega) (by omega) (by omega) (by omega),
    m_copyRow (m := 120) (a := a) (b := b) (mk8 rm) (by omega) (by omega) (by omega) (by omega) (by omega) (by omega) (by omega) (by omega),
    m_copyRow (m := 24) (a := a) (b := b) (mk10 rm) (by omega) (by omega) (by omega) (by omega) (by omega) (by omega) (by omega) (by omega),
    m_copyRow (m := 15) (a := a) (b := b) (mk11 rm) (by omega) (by omega) (by omega) (by omega) (by omega) (by omega) (by omega) (by omega),
    m_copyRow (m := 96) (a := a) (b := b) (mk12 rm) (by omega) (by omega) (by omega) (by omega) (by omega) (by omega) (by omega) (by omega),
    m_copyRow (m := 240) (a := a) (b := b) (mk13 rm) (by omega) (by omega) (by omega) (by omega) (by omega) (by omega) (by omega) (by omega)]
  rfl
end CV
