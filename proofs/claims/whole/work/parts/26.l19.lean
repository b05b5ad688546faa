theorem zt_dl19 : ∀ i ∈ zt_law_c19, decode code i.1 = .ok (i.2.1, i.2.2.1) := by decide +kernel
