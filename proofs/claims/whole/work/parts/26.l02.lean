theorem zt_dl2 : ∀ i ∈ zt_law_c2, decode code i.1 = .ok (i.2.1, i.2.2.1) := by decide +kernel
