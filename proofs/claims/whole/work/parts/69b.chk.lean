theorem chk_ok3 : ∀ w, w < 4 → ∀ t0, t0 ≤ w → ∀ t1, t1 ≤ w → ∀ t2, t2 ≤ w → ∀ t3, t3 ≤ w → chk w t0 t1 t2 t3 = true := by decide +kernel
