theorem zt_dl9 : ∀ i ∈ zt_law_c9, decode code i.1 = .ok (i.2.1, i.2.2.1) := by decide +kernel
