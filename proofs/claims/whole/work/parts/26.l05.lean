theorem zt_dl5 : ∀ i ∈ zt_law_c5, decode code i.1 = .ok (i.2.1, i.2.2.1) := by decide +kernel
