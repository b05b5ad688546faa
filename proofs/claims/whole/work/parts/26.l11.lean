theorem zt_dl11 : ∀ i ∈ zt_law_c11, decode code i.1 = .ok (i.2.1, i.2.2.1) := by decide +kernel
