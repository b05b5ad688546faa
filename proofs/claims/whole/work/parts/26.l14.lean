theorem zt_dl14 : ∀ i ∈ zt_law_c14, decode code i.1 = .ok (i.2.1, i.2.2.1) := by decide +kernel
