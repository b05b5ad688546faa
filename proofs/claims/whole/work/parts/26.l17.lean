theorem zt_dl17 : ∀ i ∈ zt_law_c17, decode code i.1 = .ok (i.2.1, i.2.2.1) := by decide +kernel
