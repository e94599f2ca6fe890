/-! the small functions of both sides, on the numbers that they meet -/
theorem sx_signs : ∀ n, n < 36 → jf_X_signsOf (nI n) = iI ((n / 7 : Nat) - 2) := by decide +kernel
theorem sx_abs_signs : ∀ n, n < 36 → jf_J_abs (jf_X_signsOf (nI n)) = nI (sc_sg n) := by decide +kernel
theorem sx_letter : ∀ n, n < 36 → jf_X_letterOf (nI n) = nI (sc_let n) := by decide +kernel
theorem sx_octave : ∀ n, n < 36 → ∀ p, p < 128 → jf_X_octaveOf (nI n) (nI p) = nI (sc_oct n p) := by decide +kernel
theorem sx_place : ∀ n, n < 36 → ∀ p, p < 128 → jf_X_placeOf (nI n) (nI p) = nI (sc_plc n p) := by decide +kernel
theorem sx_sounds : ∀ n, n < 35 → ∀ p, p < 128 → jf_X_soundsAs (nI n) (nI p) = if n % 12 = sc_low p then 1 else 0 := by decide +kernel
theorem sm_signs : ∀ n, n < 35 → jf_M_signsOf (nI n) = iI ((n / 7 : Nat) - 2) := by decide +kernel
theorem sm_size_signs : ∀ n, n < 35 → jf_M_size (jf_M_signsOf (nI n)) = nI (sc_sg n) := by decide +kernel
theorem sm_letter : ∀ n, n < 35 → jf_M_letterOf (nI n) = nI (sc_let n) := by decide +kernel
theorem sm_octave : ∀ n, n < 35 → ∀ p, p < 128 → jf_M_octaveOf (nI n) (nI p) = nI (sc_oct n p) := by decide +kernel
theorem sm_place : ∀ n, n < 35 → ∀ p, p < 128 → jf_M_placeOf (nI n) (nI p) = nI (sc_plc n p) := by decide +kernel
theorem sm_sounds : ∀ n, n < 35 → ∀ p, p < 128 → jf_M_soundsAs (nI n) (nI p) = if n % 12 = sc_low p then 1 else 0 := by decide +kernel
theorem sx_turn : ∀ a, a < 15 → ∀ b, b < 15 → jf_X_isTurn (nI a) (nI b) = if sc_dist a b = 12 then 1 else 0 := by decide +kernel
theorem sx_absd : ∀ a, a < 40 → ∀ b, b < 40 → jf_J_abs (nI a - nI b) = nI (sc_dist a b) := by decide +kernel
theorem sm_sized : ∀ a, a < 40 → ∀ b, b < 40 → jf_M_size (nI a - nI b) = nI (sc_dist a b) := by decide +kernel
theorem sx_low : ∀ p, p < 128 → jf_J_floorMod (7 * nI p + 15) 12 = nI (sc_low p) := by decide +kernel
