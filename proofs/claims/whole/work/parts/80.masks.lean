/-! sets of eight as numbers below 256 -/
def lzN (h : Nat) : Nat := if h % 2 = 1 then 0 else if h / 2 % 2 = 1 then 1 else if h / 4 % 2 = 1 then 2 else if h / 8 % 2 = 1 then 3 else if h / 16 % 2 = 1 then 4 else if h / 32 % 2 = 1 then 5 else if h / 64 % 2 = 1 then 6 else 7
def tb (h j : Nat) : Bool := h / 2 ^ j % 2 == 1
def ntI74 (x0 x1 : Int32) : Int32 := x1 + (ush x0 1)
def ntI62 (x0 x1 : Int32) : Int32 := if x0 ≤ 4 then ntI74 x0 x1 else ntI74 (ush x0 2) (x1 + 2)
def ntI49 (x0 x1 : Int32) : Int32 := if x0 ≤ 16 then ntI62 x0 x1 else ntI62 (ush x0 4) (x1 + 4)
def ntI34 (x0 x1 : Int32) : Int32 := if x0 ≤ 256 then ntI49 x0 x1 else ntI49 (ush x0 8) (x1 + 8)
def ntI (x0 : Int32) : Int32 := if 0 < ((x0 ^^^ (-1 : Int32)) &&& (x0 - 1)) then (if ((x0 ^^^ (-1 : Int32)) &&& (x0 - 1)) ≤ 65536 then ntI34 ((x0 ^^^ (-1 : Int32)) &&& (x0 - 1)) 1 else ntI34 (ush ((x0 ^^^ (-1 : Int32)) &&& (x0 - 1)) 16) (1 + 16)) else (((x0 ^^^ (-1 : Int32)) &&& (x0 - 1)) &&& 32)
theorem nt_eq (M : Mem) (x : Int32) : fJ6_numberOfTrailingZeros_0f7a4 M x = some (ntI x) := by
  unfold fJ6_numberOfTrailingZeros_0f7a4 fJ6_numberOfTrailingZeros_0f7a4_34 fJ6_numberOfTrailingZeros_0f7a4_49 fJ6_numberOfTrailingZeros_0f7a4_62 fJ6_numberOfTrailingZeros_0f7a4_74 ntI ntI34 ntI49 ntI62 ntI74
  simp only [nx_eq]
  repeat' split
  all_goals rfl
theorem m_tab : ∀ h, h < 256 → h ≠ 0 → ntI (nI h) = nI (lzN h) ∧ lzN h < 8 ∧ tb h (lzN h) = true ∧ 2 ^ lzN h ≤ h ∧ nI h &&& (nI h - 1) = nI (h - 2 ^ lzN h) ∧ nI h &&& (((1 : Int32) <<< (nI (lzN h) &&& 31)) ^^^ (-1 : Int32)) = nI (h - 2 ^ lzN h) := by decide +kernel
theorem m_tab2 : ∀ h, h < 256 → ∀ j, j < 8 → ((nI h >>> (nI j &&& 31)) &&& 1) = (if tb h j then 1 else 0) ∧ (tb h j = true → 2 ^ j ≤ h ∧ bcN (h - 2 ^ j) + 1 = bcN h ∧ nI h ^^^ ((1 : Int32) <<< (nI j &&& 31)) = nI (h - 2 ^ j) ∧ nI h &&& (((1 : Int32) <<< (nI j &&& 31)) ^^^ (-1 : Int32)) = nI (h - 2 ^ j)) := by decide +kernel
theorem m_tab3 : ∀ h, h < 256 → bcN h ≤ 8 ∧ (bcN h = 0 → h = 0) ∧ bcN h = fb_ct (tb h) 8 := by decide +kernel
theorem m_tab4 : ∀ m, m ≤ 8 → ∀ h, h < 2 ^ m → (∀ j, j < 8 → m ≤ j → tb h j = false) ∧ bcN h ≤ m := by decide +kernel
theorem m_tab5 : ∀ h, h < 256 → ∀ i, i < 8 → tb h i = true → ∀ j, j < 8 → tb (h - 2 ^ i) j = (tb h j && !(j == i)) := by decide +kernel
theorem m_lz : ∀ h, h < 256 → h ≠ 0 → ∀ j, j < lzN h → tb h j = false := by decide +kernel
theorem shl_m : ∀ m, m ≤ 8 → (1 : Int32) <<< (nI m &&& 31) = nI (2 ^ m) := by decide +kernel
