/-! every method's table is its bytecode -/
set_option maxRecDepth 100000 in
theorem jm_ck0 : ∀ k, k < 10 → jm_ckm (0 + k) = true := by decide +kernel
set_option maxRecDepth 100000 in
theorem jm_ck10 : ∀ k, k < 10 → jm_ckm (10 + k) = true := by decide +kernel
set_option maxRecDepth 100000 in
theorem jm_ck20 : ∀ k, k < 10 → jm_ckm (20 + k) = true := by decide +kernel
set_option maxRecDepth 100000 in
theorem jm_ck30 : ∀ k, k < 10 → jm_ckm (30 + k) = true := by decide +kernel
set_option maxRecDepth 100000 in
theorem jm_ck40 : ∀ k, k < 10 → jm_ckm (40 + k) = true := by decide +kernel
set_option maxRecDepth 100000 in
theorem jm_ck50 : ∀ k, k < 10 → jm_ckm (50 + k) = true := by decide +kernel
set_option maxRecDepth 100000 in
theorem jm_ck60 : ∀ k, k < 10 → jm_ckm (60 + k) = true := by decide +kernel
set_option maxRecDepth 100000 in
theorem jm_ck70 : ∀ k, k < 10 → jm_ckm (70 + k) = true := by decide +kernel
set_option maxRecDepth 100000 in
theorem jm_ck80 : ∀ k, k < 10 → jm_ckm (80 + k) = true := by decide +kernel
set_option maxRecDepth 100000 in
theorem jm_ck90 : ∀ k, k < 10 → jm_ckm (90 + k) = true := by decide +kernel
set_option maxRecDepth 100000 in
theorem jm_ck100 : ∀ k, k < 10 → jm_ckm (100 + k) = true := by decide +kernel
set_option maxRecDepth 100000 in
theorem jm_ck110 : ∀ k, k < 10 → jm_ckm (110 + k) = true := by decide +kernel
set_option maxRecDepth 100000 in
theorem jm_ck120 : ∀ k, k < 10 → jm_ckm (120 + k) = true := by decide +kernel
set_option maxRecDepth 100000 in
theorem jm_ck130 : ∀ k, k < 10 → jm_ckm (130 + k) = true := by decide +kernel
set_option maxRecDepth 100000 in
theorem jm_ck140 : ∀ k, k < 10 → jm_ckm (140 + k) = true := by decide +kernel
set_option maxRecDepth 100000 in
theorem jm_ck150 : ∀ k, k < 10 → jm_ckm (150 + k) = true := by decide +kernel
set_option maxRecDepth 100000 in
theorem jm_ck160 : ∀ k, k < 6 → jm_ckm (160 + k) = true := by decide +kernel
