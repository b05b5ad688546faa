theorem zt_dl8 : ∀ i ∈ zt_law_c8, decode code i.1 = .ok (i.2.1, i.2.2.1) := by decide +kernel
