theorem zt_dl7 : ∀ i ∈ zt_law_c7, decode code i.1 = .ok (i.2.1, i.2.2.1) := by decide +kernel
