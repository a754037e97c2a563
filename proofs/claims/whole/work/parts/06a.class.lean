def cS (K : fh_K) (M : fh_M) (x : Nat) : Prop := K x = (11, 0) ∧ K (x + 1) = (1, 0) ∧ K (x + 2) = (13, 80) ∧ K (x + 3) = (1, 0) ∧ K (x + 4) = (13, 60) ∧ K (x + 5) = (17, 12) ∧ K (x + 6) = (18, 40) ∧ K (x + 7) = (2, 0) ∧ K (x + 8) = (13, 8) ∧ K (x + 9) = (13, 8) ∧ K (x + 10) = (4, 0) ∧ K (x + 11) = (13, 24) ∧ K (x + 12) = (13, 24) ∧ K (x + 13) = (10, 0) ∧ K (x + 14) = (19, 24) ∧ K (x + 15) = (6, 0) ∧ K (x + 16) = (16, 12) ∧ K (x + 17) = (16, 12) ∧ K (x + 18) = (16, 12) ∧ K (x + 19) = (7, 0) ∧ K (x + 20) = (13, 12) ∧ K (x + 21) = (13, 12) ∧ K (x + 22) = (5, 0) ∧ K (x + 23) = (13, 29) ∧ K (x + 24) = (13, 29) ∧ K (x + 25) = (13, 29) ∧ K (x + 27) = (5, 0) ∧ K (x + 28) = (13, 29) ∧ K (x + 29) = (13, 29) ∧ K (x + 30) = (13, 29) ∧ M.2.2 x 0 = some (x + 1) ∧ M.2.2 x 1 = some (x + 3) ∧ M.2.2 x 2 = some (x + 5) ∧ M.2.2 x 3 = some (x + 6) ∧ M.2.2 x 4 = some (x + 7) ∧ M.2.2 x 5 = some (x + 10) ∧ M.2.2 x 6 = some (x + 13) ∧ M.2.2 x 7 = some (x + 15) ∧ M.2.2 x 8 = some (x + 19) ∧ M.2.2 x 9 = some (x + 22) ∧ M.2.2 x 10 = some (x + 27) ∧ M.2.2 (x + 1) 0 = some (x + 2) ∧ M.2.2 (x + 3) 0 = some (x + 4) ∧ M.2.2 (x + 7) 0 = some (x + 8) ∧ M.2.2 (x + 7) 1 = some (x + 9) ∧ M.2.2 (x + 10) 0 = some (x + 11) ∧ M.2.2 (x + 10) 1 = some (x + 12) ∧ M.2.2 (x + 13) 0 = some (x + 14) ∧ M.2.2 (x + 15) 0 = some (x + 16) ∧ M.2.2 (x + 15) 1 = some (x + 17) ∧ M.2.2 (x + 15) 2 = some (x + 18) ∧ M.2.2 (x + 19) 0 = some (x + 20) ∧ M.2.2 (x + 19) 1 = some (x + 21) ∧ M.2.2 (x + 22) 0 = some (x + 23) ∧ M.2.2 (x + 22) 1 = some (x + 24) ∧ M.2.2 (x + 22) 2 = some (x + 25) ∧ M.2.2 (x + 27) 0 = some (x + 28) ∧ M.2.2 (x + 27) 1 = some (x + 29) ∧ M.2.2 (x + 27) 2 = some (x + 30)
theorem ck0 {K : fh_K} {M : fh_M} {x : Nat} (h : cS K M x) : K x = (11, 0) := h.1
theorem ck1 {K : fh_K} {M : fh_M} {x : Nat} (h : cS K M x) : K (x + 1) = (1, 0) := h.2.1
theorem ck2 {K : fh_K} {M : fh_M} {x : Nat} (h : cS K M x) : K (x + 2) = (13, 80) := h.2.2.1
theorem ck3 {K : fh_K} {M : fh_M} {x : Nat} (h : cS K M x) : K (x + 3) = (1, 0) := h.2.2.2.1
theorem ck4 {K : fh_K} {M : fh_M} {x : Nat} (h : cS K M x) : K (x + 4) = (13, 60) := h.2.2.2.2.1
theorem ck5 {K : fh_K} {M : fh_M} {x : Nat} (h : cS K M x) : K (x + 5) = (17, 12) := h.2.2.2.2.2.1
theorem ck6 {K : fh_K} {M : fh_M} {x : Nat} (h : cS K M x) : K (x + 6) = (18, 40) := h.2.2.2.2.2.2.1
theorem ck7 {K : fh_K} {M : fh_M} {x : Nat} (h : cS K M x) : K (x + 7) = (2, 0) := h.2.2.2.2.2.2.2.1
theorem ck8 {K : fh_K} {M : fh_M} {x : Nat} (h : cS K M x) : K (x + 8) = (13, 8) := h.2.2.2.2.2.2.2.2.1
theorem ck9 {K : fh_K} {M : fh_M} {x : Nat} (h : cS K M x) : K (x + 9) = (13, 8) := h.2.2.2.2.2.2.2.2.2.1
theorem ck10 {K : fh_K} {M : fh_M} {x : Nat} (h : cS K M x) : K (x + 10) = (4, 0) := h.2.2.2.2.2.2.2.2.2.2.1
theorem ck11 {K : fh_K} {M : fh_M} {x : Nat} (h : cS K M x) : K (x + 11) = (13, 24) := h.2.2.2.2.2.2.2.2.2.2.2.1
theorem ck12 {K : fh_K} {M : fh_M} {x : Nat} (h : cS K M x) : K (x + 12) = (13, 24) := h.2.2.2.2.2.2.2.2.2.2.2.2.1
theorem ck13 {K : fh_K} {M : fh_M} {x : Nat} (h : cS K M x) : K (x + 13) = (10, 0) := h.2.2.2.2.2.2.2.2.2.2.2.2.2.1
theorem ck14 {K : fh_K} {M : fh_M} {x : Nat} (h : cS K M x) : K (x + 14) = (19, 24) := h.2.2.2.2.2.2.2.2.2.2.2.2.2.2.1
theorem ck15 {K : fh_K} {M : fh_M} {x : Nat} (h : cS K M x) : K (x + 15) = (6, 0) := h.2.2.2.2.2.2.2.2.2.2.2.2.2.2.2.1
theorem ck16 {K : fh_K} {M : fh_M} {x : Nat} (h : cS K M x) : K (x + 16) = (16, 12) := h.2.2.2.2.2.2.2.2.2.2.2.2.2.2.2.2.1
theorem ck17 {K : fh_K} {M : fh_M} {x : Nat} (h : cS K M x) : K (x + 17) = (16, 12) := h.2.2.2.2.2.2.2.2.2.2.2.2.2.2.2.2.2.1
theorem ck18 {K : fh_K} {M : fh_M} {x : Nat} (h : cS K M x) : K (x + 18) = (16, 12) := h.2.2.2.2.2.2.2.2.2.2.2.2.2.2.2.2.2.2.1
theorem ck19 {K : fh_K} {M : fh_M} {x : Nat} (h : cS K M x) : K (x + 19) = (7, 0) := h.2.2.2.2.2.2.2.2.2.2.2.2.2.2.2.2.2.2.2.1
theorem ck20 {K : fh_K} {M : fh_M} {x : Nat} (h : cS K M x) : K (x + 20) = (13, 12) := h.2.2.2.2.2.2.2.2.2.2.2.2.2.2.2.2.2.2.2.2.1
theorem ck21 {K : fh_K} {M : fh_M} {x : Nat} (h : cS K M x) : K (x + 21) = (13, 12) := h.2.2.2.2.2.2.2.2.2.2.2.2.2.2.2.2.2.2.2.2.2.1
theorem ck22 {K : fh_K} {M : fh_M} {x : Nat} (h : cS K M x) : K (x + 22) = (5, 0) := h.2.2.2.2.2.2.2.2.2.2.2.2.2.2.2.2.2.2.2.2.2.2.1
theorem ck23 {K : fh_K} {M : fh_M} {x : Nat} (h : cS K M x) : K (x + 23) = (13, 29) := h.2.2.2.2.2.2.2.2.2.2.2.2.2.2.2.2.2.2.2.2.2.2.2.1
theorem ck24 {K : fh_K} {M : fh_M} {x : Nat} (h : cS K M x) : K (x + 24) = (13, 29) := h.2.2.2.2.2.2.2.2.2.2.2.2.2.2.2.2.2.2.2.2.2.2.2.2.1
theorem ck25 {K : fh_K} {M : fh_M} {x : Nat} (h : cS K M x) : K (x + 25) = (13, 29) := h.2.2.2.2.2.2.2.2.2.2.2.2.2.2.2.2.2.2.2.2.2.2.2.2.2.1
theorem ck27 {K : fh_K} {M : fh_M} {x : Nat} (h : cS K M x) : K (x + 27) = (5, 0) := h.2.2.2.2.2.2.2.2.2.2.2.2.2.2.2.2.2.2.2.2.2.2.2.2.2.2.1
theorem ck28 {K : fh_K} {M : fh_M} {x : Nat} (h : cS K M x) : K (x + 28) = (13, 29) := h.2.2.2.2.2.2.2.2.2.2.2.2.2.2.2.2.2.2.2.2.2.2.2.2.2.2.2.1
theorem ck29 {K : fh_K} {M : fh_M} {x : Nat} (h : cS K M x) : K (x + 29) = (13, 29) := h.2.2.2.2.2.2.2.2.2.2.2.2.2.2.2.2.2.2.2.2.2.2.2.2.2.2.2.2.1
theorem ck30 {K : fh_K} {M : fh_M} {x : Nat} (h : cS K M x) : K (x + 30) = (13, 29) := h.2.2.2.2.2.2.2.2.2.2.2.2.2.2.2.2.2.2.2.2.2.2.2.2.2.2.2.2.2.1
theorem cr0_0 {K : fh_K} {M : fh_M} {x : Nat} (h : cS K M x) : M.2.2 x 0 = some (x + 1) := h.2.2.2.2.2.2.2.2.2.2.2.2.2.2.2.2.2.2.2.2.2.2.2.2.2.2.2.2.2.2.1
theorem cr0_1 {K : fh_K} {M : fh_M} {x : Nat} (h : cS K M x) : M.2.2 x 1 = some (x + 3) := h.2.2.2.2.2.2.2.2.2.2.2.2.2.2.2.2.2.2.2.2.2.2.2.2.2.2.2.2.2.2.2.1
theorem cr0_2 {K : fh_K} {M : fh_M} {x : Nat} (h : cS K M x) : M.2.2 x 2 = some (x + 5) := h.2.2.2.2.2.2.2.2.2.2.2.2.2.2.2.2.2.2.2.2.2.2.2.2.2.2.2.2.2.2.2.2.1
theorem cr0_3 {K : fh_K} {M : fh_M} {x : Nat} (h : cS K M x) : M.2.2 x 3 = some (x + 6) := h.2.2.2.2.2.2.2.2.2.2.2.2.2.2.2.2.2.2.2.2.2.2.2.2.2.2.2.2.2.2.2.2.2.1
theorem cr0_4 {K : fh_K} {M : fh_M} {x : Nat} (h : cS K M x) : M.2.2 x 4 = some (x + 7) := h.2.2.2.2.2.2.2.2.2.2.2.2.2.2.2.2.2.2.2.2.2.2.2.2.2.2.2.2.2.2.2.2.2.2.1
theorem cr0_5 {K : fh_K} {M : fh_M} {x : Nat} (h : cS K M x) : M.2.2 x 5 = some (x + 10) := h.2.2.2.2.2.2.2.2.2.2.2.2.2.2.2.2.2.2.2.2.2.2.2.2.2.2.2.2.2.2.2.2.2.2.2.1
theorem cr0_6 {K : fh_K} {M : fh_M} {x : Nat} (h : cS K M x) : M.2.2 x 6 = some (x + 13) := h.2.2.2.2.2.2.2.2.2.2.2.2.2.2.2.2.2.2.2.2.2.2.2.2.2.2.2.2.2.2.2.2.2.2.2.2.1
theorem cr0_7 {K : fh_K} {M : fh_M} {x : Nat} (h : cS K M x) : M.2.2 x 7 = some (x + 15) := h.2.2.2.2.2.2.2.2.2.2.2.2.2.2.2.2.2.2.2.2.2.2.2.2.2.2.2.2.2.2.2.2.2.2.2.2.2.1
theorem cr0_8 {K : fh_K} {M : fh_M} {x : Nat} (h : cS K M x) : M.2.2 x 8 = some (x + 19) := h.2.2.2.2.2.2.2.2.2.2.2.2.2.2.2.2.2.2.2.2.2.2.2.2.2.2.2.2.2.2.2.2.2.2.2.2.2.2.1
theorem cr0_9 {K : fh_K} {M : fh_M} {x : Nat} (h : cS K M x) : M.2.2 x 9 = some (x + 22) := h.2.2.2.2.2.2.2.2.2.2.2.2.2.2.2.2.2.2.2.2.2.2.2.2.2.2.2.2.2.2.2.2.2.2.2.2.2.2.2.1
theorem cr0_10 {K : fh_K} {M : fh_M} {x : Nat} (h : cS K M x) : M.2.2 x 10 = some (x + 27) := h.2.2.2.2.2.2.2.2.2.2.2.2.2.2.2.2.2.2.2.2.2.2.2.2.2.2.2.2.2.2.2.2.2.2.2.2.2.2.2.2.1
theorem cr1_0 {K : fh_K} {M : fh_M} {x : Nat} (h : cS K M x) : M.2.2 (x + 1) 0 = some (x + 2) := h.2.2.2.2.2.2.2.2.2.2.2.2.2.2.2.2.2.2.2.2.2.2.2.2.2.2.2.2.2.2.2.2.2.2.2.2.2.2.2.2.2.1
theorem cr3_0 {K : fh_K} {M : fh_M} {x : Nat} (h : cS K M x) : M.2.2 (x + 3) 0 = some (x + 4) := h.2.2.2.2.2.2.2.2.2.2.2.2.2.2.2.2.2.2.2.2.2.2.2.2.2.2.2.2.2.2.2.2.2.2.2.2.2.2.2.2.2.2.1
theorem cr7_0 {K : fh_K} {M : fh_M} {x : Nat} (h : cS K M x) : M.2.2 (x + 7) 0 = some (x + 8) := h.2.2.2.2.2.2.2.2.2.2.2.2.2.2.2.2.2.2.2.2.2.2.2.2.2.2.2.2.2.2.2.2.2.2.2.2.2.2.2.2.2.2.2.1
theorem cr7_1 {K : fh_K} {M : fh_M} {x : Nat} (h : cS K M x) : M.2.2 (x + 7) 1 = some (x + 9) := h.2.2.2.2.2.2.2.2.2.2.2.2.2.2.2.2.2.2.2.2.2.2.2.2.2.2.2.2.2.2.2.2.2.2.2.2.2.2.2.2.2.2.2.2.1
theorem cr10_0 {K : fh_K} {M : fh_M} {x : Nat} (h : cS K M x) : M.2.2 (x + 10) 0 = some (x + 11) := h.2.2.2.2.2.2.2.2.2.2.2.2.2.2.2.2.2.2.2.2.2.2.2.2.2.2.2.2.2.2.2.2.2.2.2.2.2.2.2.2.2.2.2.2.2.1
theorem cr10_1 {K : fh_K} {M : fh_M} {x : Nat} (h : cS K M x) : M.2.2 (x + 10) 1 = some (x + 12) := h.2.2.2.2.2.2.2.2.2.2.2.2.2.2.2.2.2.2.2.2.2.2.2.2.2.2.2.2.2.2.2.2.2.2.2.2.2.2.2.2.2.2.2.2.2.2.1
theorem cr13_0 {K : fh_K} {M : fh_M} {x : Nat} (h : cS K M x) : M.2.2 (x + 13) 0 = some (x + 14) := h.2.2.2.2.2.2.2.2.2.2.2.2.2.2.2.2.2.2.2.2.2.2.2.2.2.2.2.2.2.2.2.2.2.2.2.2.2.2.2.2.2.2.2.2.2.2.2.1
theorem cr15_0 {K : fh_K} {M : fh_M} {x : Nat} (h : cS K M x) : M.2.2 (x + 15) 0 = some (x + 16) := h.2.2.2.2.2.2.2.2.2.2.2.2.2.2.2.2.2.2.2.2.2.2.2.2.2.2.2.2.2.2.2.2.2.2.2.2.2.2.2.2.2.2.2.2.2.2.2.2.1
theorem cr15_1 {K : fh_K} {M : fh_M} {x : Nat} (h : cS K M x) : M.2.2 (x + 15) 1 = some (x + 17) := h.2.2.2.2.2.2.2.2.2.2.2.2.2.2.2.2.2.2.2.2.2.2.2.2.2.2.2.2.2.2.2.2.2.2.2.2.2.2.2.2.2.2.2.2.2.2.2.2.2.1
theorem cr15_2 {K : fh_K} {M : fh_M} {x : Nat} (h : cS K M x) : M.2.2 (x + 15) 2 = some (x + 18) := h.2.2.2.2.2.2.2.2.2.2.2.2.2.2.2.2.2.2.2.2.2.2.2.2.2.2.2.2.2.2.2.2.2.2.2.2.2.2.2.2.2.2.2.2.2.2.2.2.2.2.1
theorem cr19_0 {K : fh_K} {M : fh_M} {x : Nat} (h : cS K M x) : M.2.2 (x + 19) 0 = some (x + 20) := h.2.2.2.2.2.2.2.2.2.2.2.2.2.2.2.2.2.2.2.2.2.2.2.2.2.2.2.2.2.2.2.2.2.2.2.2.2.2.2.2.2.2.2.2.2.2.2.2.2.2.2.1
theorem cr19_1 {K : fh_K} {M : fh_M} {x : Nat} (h : cS K M x) : M.2.2 (x + 19) 1 = some (x + 21) := h.2.2.2.2.2.2.2.2.2.2.2.2.2.2.2.2.2.2.2.2.2.2.2.2.2.2.2.2.2.2.2.2.2.2.2.2.2.2.2.2.2.2.2.2.2.2.2.2.2.2.2.2.1
theorem cr22_0 {K : fh_K} {M : fh_M} {x : Nat} (h : cS K M x) : M.2.2 (x + 22) 0 = some (x + 23) := h.2.2.2.2.2.2.2.2.2.2.2.2.2.2.2.2.2.2.2.2.2.2.2.2.2.2.2.2.2.2.2.2.2.2.2.2.2.2.2.2.2.2.2.2.2.2.2.2.2.2.2.2.2.1
theorem cr22_1 {K : fh_K} {M : fh_M} {x : Nat} (h : cS K M x) : M.2.2 (x + 22) 1 = some (x + 24) := h.2.2.2.2.2.2.2.2.2.2.2.2.2.2.2.2.2.2.2.2.2.2.2.2.2.2.2.2.2.2.2.2.2.2.2.2.2.2.2.2.2.2.2.2.2.2.2.2.2.2.2.2.2.2.1
theorem cr22_2 {K : fh_K} {M : fh_M} {x : Nat} (h : cS K M x) : M.2.2 (x + 22) 2 = some (x + 25) := h.2.2.2.2.2.2.2.2.2.2.2.2.2.2.2.2.2.2.2.2.2.2.2.2.2.2.2.2.2.2.2.2.2.2.2.2.2.2.2.2.2.2.2.2.2.2.2.2.2.2.2.2.2.2.2.1
theorem cr27_0 {K : fh_K} {M : fh_M} {x : Nat} (h : cS K M x) : M.2.2 (x + 27) 0 = some (x + 28) := h.2.2.2.2.2.2.2.2.2.2.2.2.2.2.2.2.2.2.2.2.2.2.2.2.2.2.2.2.2.2.2.2.2.2.2.2.2.2.2.2.2.2.2.2.2.2.2.2.2.2.2.2.2.2.2.2.1
theorem cr27_1 {K : fh_K} {M : fh_M} {x : Nat} (h : cS K M x) : M.2.2 (x + 27) 1 = some (x + 29) := h.2.2.2.2.2.2.2.2.2.2.2.2.2.2.2.2.2.2.2.2.2.2.2.2.2.2.2.2.2.2.2.2.2.2.2.2.2.2.2.2.2.2.2.2.2.2.2.2.2.2.2.2.2.2.2.2.2.1
theorem cr27_2 {K : fh_K} {M : fh_M} {x : Nat} (h : cS K M x) : M.2.2 (x + 27) 2 = some (x + 30) := h.2.2.2.2.2.2.2.2.2.2.2.2.2.2.2.2.2.2.2.2.2.2.2.2.2.2.2.2.2.2.2.2.2.2.2.2.2.2.2.2.2.2.2.2.2.2.2.2.2.2.2.2.2.2.2.2.2.2
theorem co {α : Type} {K : fh_K} {M : fh_M} {x : Nat} {f : Nat → Option α} (h : cS K M x) : fo K 10 (some x) f = f x := fo_ok (ck0 h)
theorem cS_rd {K : fh_K} {M : fh_M} {x : Nat} (h : cS K M x) : rS K M (x + 22) := ⟨ck22 h, cr22_0 h, cr22_1 h, cr22_2 h, ck23 h, ck24 h, ck25 h⟩
theorem cS_ro {K : fh_K} {M : fh_M} {x : Nat} (h : cS K M x) : rS K M (x + 27) := ⟨ck27 h, cr27_0 h, cr27_1 h, cr27_2 h, ck28 h, ck29 h, ck30 h⟩
/-- the first one that a file comes from -/
def root (σ : sT) : Nat → Nat → Nat
  | 0, f => f
  | n + 1, f => if σ 10 f = 0 then f else root σ n (σ 10 f - 1)
def isSrc (σ : sT) (f : Nat) : Prop := ∃ g, g < σ 0 9 ∧ σ 10 g = f + 1
def carr (σ : sT) (t : Nat) : Nat := σ 4 (σ 16 t) &&& (4095 ^^^ σ 17 t)
/-- a row of turners as one number -/
def rowC (f : Nat → Nat) : Nat → Nat
  | 0 => 0
  | n + 1 => rowC f n * 32 + f n
def cMk (K : fh_K) (M : fh_M) (x : Nat) (σ : sT) (i : Nat) : Prop := ∃ a ak, M.2.2 (x + 5) i = some a ∧ x + 63 ≤ a ∧ x + 63 ≤ ak ∧ kS K M a ak (σ 3 i) (σ 4 i) (σ 5 i) (mF σ i) ∧ M.1 a 3 = nI (σ 6 i)
def cFl (K : fh_K) (M : fh_M) (x : Nat) (σ : sT) (i : Nat) : Prop := ∃ a ab, M.2.2 (x + 6) i = some a ∧ x + 63 ≤ a ∧ x + 63 ≤ ab ∧ K a = (8, 0) ∧ M.2.2 a 0 = some ab ∧ K ab = (13, σ 8 i) ∧ (∀ k, k < σ 8 i → M.1 ab k = nI (cF σ i k)) ∧ M.1 a 1 = kI (σ 10 i) ∧ M.1 a 2 = nI (root σ 40 i) ∧ ((isSrc σ i ∧ M.1 a 3 = 1) ∨ (¬ isSrc σ i ∧ M.1 a 3 = 0)) ∧ M.1 a 4 = nI (σ 9 i) ∧ M.1 a 5 = kI (sK σ i) ∧ M.1 a 6 = nI (kn σ i (σ 0 3)).2 ∧ M.1 a 7 = nI (hsF 0 (sR σ i)) ∧ M.1 a 8 = nI (sR σ i).length
def cTn (K : fh_K) (M : fh_M) (x : Nat) (σ : sT) (t : Nat) : Prop := ∃ a, M.2.2 (x + 14) t = some a ∧ x + 63 ≤ a ∧ K a = (9, 0) ∧ M.1 a 0 = nI (σ 15 t) ∧ M.1 a 1 = nI (σ 16 t) ∧ M.1 a 2 = nI (carr σ t) ∧ M.1 a 3 = nI (σ 18 t) ∧ M.1 a 4 = nI (σ 19 t)
/-- the class's cells hold the state -/
def cP (K : fh_K) (M : fh_M) (x : Nat) (σ : sT) : Prop := (M.1 x 11 = nI (σ 0 3) ∧ M.1 x 12 = nI (σ 0 9) ∧ M.1 x 13 = nI (σ 0 2)) ∧ (M.1 (x + 1) 1 = nI (σ 0 1) ∧ ∀ k, k < σ 0 1 → M.1 (x + 2) k = nI (σ 1 k)) ∧ (∀ j, j < 8 → M.1 (x + 8) j = nI (σ 11 j) ∧ M.1 (x + 9) j = nI (σ 12 j)) ∧ (M.1 (x + 10) 2 = nI (σ 0 16) ∧ ∀ r, r < σ 0 16 → M.1 (x + 11) r = nI (σ 13 r) ∧ M.1 (x + 12) r = nI (σ 14 r)) ∧ M.1 (x + 13) 1 = nI (σ 0 19) ∧ (∃ p, p < 2 ^ 17 ∧ M.2.1 x 14 = lN ((p * 8 + σ 0 37) * 2 ^ 20 + rowC (σ 28) (σ 0 37)) ∧ ∀ k, k < σ 0 37 → σ 28 k < 32) ∧ (∀ i, i < σ 0 3 → cMk K M x σ i) ∧ (∀ i, i < σ 0 9 → cFl K M x σ i) ∧ (∀ t, t < σ 0 19 → cTn K M x σ t) ∧ ∀ i j, i < σ 0 9 → j < σ 0 9 → M.2.2 (x + 6) i = M.2.2 (x + 6) j → i = j
/-- the class's scratch -/
def cZ (x a : Nat) : Prop := a = x + 3 ∨ a = x + 4 ∨ (x + 20 ≤ a ∧ a ≤ x + 25) ∨ (x + 27 ≤ a ∧ a ≤ x + 30)
def cG (x : Nat) (M M' : fh_M) : Prop := (∀ a k, ¬ cZ x a → M'.1 a k = M.1 a k) ∧ (∀ a k, ¬ (a = x + 16 ∨ a = x + 17 ∨ a = x + 18) → M'.2.1 a k = M.2.1 a k) ∧ ∀ a k, ¬ ((a = x + 22 ∨ a = x + 27) ∧ k = 3) → M'.2.2 a k = M.2.2 a k
theorem cG_rf (x : Nat) (M : fh_M) : cG x M M := ⟨fun _ _ _ => rfl, fun _ _ _ => rfl, fun _ _ _ => rfl⟩
theorem cG_tr {x : Nat} {M M1 M2 : fh_M} (h : cG x M M1) (h2 : cG x M1 M2) : cG x M M2 := ⟨fun a k q => (h2.1 a k q).trans (h.1 a k q), fun a k q => (h2.2.1 a k q).trans (h.2.1 a k q), fun a k q => (h2.2.2 a k q).trans (h.2.2 a k q)⟩
theorem cG_rd {x : Nat} {M M' : fh_M} (h : rE (x + 22) M M') : cG x M M' := ⟨fun a k q => h.2.2 a k (fun z => q (by unfold rq at z; unfold cZ; omega)), fun a k _ => by rw [h.1], fun a k q => h.2.1 a k (by omega)⟩
theorem cG_ro {x : Nat} {M M' : fh_M} (h : rE (x + 27) M M') : cG x M M' := ⟨fun a k q => h.2.2 a k (fun z => q (by unfold rq at z; unfold cZ; omega)), fun a k _ => by rw [h.1], fun a k q => h.2.1 a k (by omega)⟩
theorem cG_si {x : Nat} {M : fh_M} {a k : Nat} {v : Int32} (h : cZ x a) : cG x M (fh_si M a k v) := ⟨fun b j q => by
  rw [fh_si_1, if_neg]
  rintro ⟨rfl, rfl⟩
  exact q h, fun _ _ _ => rfl, fun _ _ _ => rfl⟩
theorem cG_ri {x : Nat} {M : fh_M} {a : Nat} {g : Nat → Int32} (h : cZ x a) : cG x M (fh_ri M a g) := ⟨fun b j q => by
  rw [fh_ri_1, if_neg]
  rintro rfl
  exact q h, fun _ _ _ => rfl, fun _ _ _ => rfl⟩
theorem cG_sl {x : Nat} {M : fh_M} {a k : Nat} {v : Int64} (h : a = x + 16 ∨ a = x + 17 ∨ a = x + 18) : cG x M (fh_sl M a k v) := ⟨fun _ _ _ => rfl, fun b j q => by
  rw [fh_sl_21, if_neg]
  rintro ⟨rfl, rfl⟩
  exact q h, fun _ _ _ => rfl⟩
theorem cS_keep {K K' : fh_K} {M M' : fh_M} {x : Nat} (hS : cS K M x) (hK : ∀ a, x ≤ a → a < x + 32 → K' a = K a) (hR : ∀ a k, x ≤ a → a < x + 32 → ¬ ((a = x + 22 ∨ a = x + 27) ∧ k = 3) → ¬ (a = x + 5 ∨ a = x + 6 ∨ a = x + 14) → M'.2.2 a k = M.2.2 a k) : cS K' M' x := by
  refine ⟨?_, ?_, ?_, ?_, ?_, ?_, ?_, ?_, ?_, ?_, ?_, ?_, ?_, ?_, ?_, ?_, ?_, ?_, ?_, ?_, ?_, ?_, ?_, ?_, ?_, ?_, ?_, ?_, ?_, ?_, ?_, ?_, ?_, ?_, ?_, ?_, ?_, ?_, ?_, ?_, ?_, ?_, ?_, ?_, ?_, ?_, ?_, ?_, ?_, ?_, ?_, ?_, ?_, ?_, ?_, ?_, ?_, ?_, ?_⟩
  · rw [hK _ (by omega) (by omega)]; exact ck0 hS
  · rw [hK _ (by omega) (by omega)]; exact ck1 hS
  · rw [hK _ (by omega) (by omega)]; exact ck2 hS
  · rw [hK _ (by omega) (by omega)]; exact ck3 hS
  · rw [hK _ (by omega) (by omega)]; exact ck4 hS
  · rw [hK _ (by omega) (by omega)]; exact ck5 hS
  · rw [hK _ (by omega) (by omega)]; exact ck6 hS
  · rw [hK _ (by omega) (by omega)]; exact ck7 hS
  · rw [hK _ (by omega) (by omega)]; exact ck8 hS
  · rw [hK _ (by omega) (by omega)]; exact ck9 hS
  · rw [hK _ (by omega) (by omega)]; exact ck10 hS
  · rw [hK _ (by omega) (by omega)]; exact ck11 hS
  · rw [hK _ (by omega) (by omega)]; exact ck12 hS
  · rw [hK _ (by omega) (by omega)]; exact ck13 hS
  · rw [hK _ (by omega) (by omega)]; exact ck14 hS
  · rw [hK _ (by omega) (by omega)]; exact ck15 hS
  · rw [hK _ (by omega) (by omega)]; exact ck16 hS
  · rw [hK _ (by omega) (by omega)]; exact ck17 hS
  · rw [hK _ (by omega) (by omega)]; exact ck18 hS
  · rw [hK _ (by omega) (by omega)]; exact ck19 hS
  · rw [hK _ (by omega) (by omega)]; exact ck20 hS
  · rw [hK _ (by omega) (by omega)]; exact ck21 hS
  · rw [hK _ (by omega) (by omega)]; exact ck22 hS
  · rw [hK _ (by omega) (by omega)]; exact ck23 hS
  · rw [hK _ (by omega) (by omega)]; exact ck24 hS
  · rw [hK _ (by omega) (by omega)]; exact ck25 hS
  · rw [hK _ (by omega) (by omega)]; exact ck27 hS
  · rw [hK _ (by omega) (by omega)]; exact ck28 hS
  · rw [hK _ (by omega) (by omega)]; exact ck29 hS
  · rw [hK _ (by omega) (by omega)]; exact ck30 hS
  · rw [hR _ _ (by omega) (by omega) (by omega) (by omega)]; exact cr0_0 hS
  · rw [hR _ _ (by omega) (by omega) (by omega) (by omega)]; exact cr0_1 hS
  · rw [hR _ _ (by omega) (by omega) (by omega) (by omega)]; exact cr0_2 hS
  · rw [hR _ _ (by omega) (by omega) (by omega) (by omega)]; exact cr0_3 hS
  · rw [hR _ _ (by omega) (by omega) (by omega) (by omega)]; exact cr0_4 hS
  · rw [hR _ _ (by omega) (by omega) (by omega) (by omega)]; exact cr0_5 hS
  · rw [hR _ _ (by omega) (by omega) (by omega) (by omega)]; exact cr0_6 hS
  · rw [hR _ _ (by omega) (by omega) (by omega) (by omega)]; exact cr0_7 hS
  · rw [hR _ _ (by omega) (by omega) (by omega) (by omega)]; exact cr0_8 hS
  · rw [hR _ _ (by omega) (by omega) (by omega) (by omega)]; exact cr0_9 hS
  · rw [hR _ _ (by omega) (by omega) (by omega) (by omega)]; exact cr0_10 hS
  · rw [hR _ _ (by omega) (by omega) (by omega) (by omega)]; exact cr1_0 hS
  · rw [hR _ _ (by omega) (by omega) (by omega) (by omega)]; exact cr3_0 hS
  · rw [hR _ _ (by omega) (by omega) (by omega) (by omega)]; exact cr7_0 hS
  · rw [hR _ _ (by omega) (by omega) (by omega) (by omega)]; exact cr7_1 hS
  · rw [hR _ _ (by omega) (by omega) (by omega) (by omega)]; exact cr10_0 hS
  · rw [hR _ _ (by omega) (by omega) (by omega) (by omega)]; exact cr10_1 hS
  · rw [hR _ _ (by omega) (by omega) (by omega) (by omega)]; exact cr13_0 hS
  · rw [hR _ _ (by omega) (by omega) (by omega) (by omega)]; exact cr15_0 hS
  · rw [hR _ _ (by omega) (by omega) (by omega) (by omega)]; exact cr15_1 hS
  · rw [hR _ _ (by omega) (by omega) (by omega) (by omega)]; exact cr15_2 hS
  · rw [hR _ _ (by omega) (by omega) (by omega) (by omega)]; exact cr19_0 hS
  · rw [hR _ _ (by omega) (by omega) (by omega) (by omega)]; exact cr19_1 hS
  · rw [hR _ _ (by omega) (by omega) (by omega) (by omega)]; exact cr22_0 hS
  · rw [hR _ _ (by omega) (by omega) (by omega) (by omega)]; exact cr22_1 hS
  · rw [hR _ _ (by omega) (by omega) (by omega) (by omega)]; exact cr22_2 hS
  · rw [hR _ _ (by omega) (by omega) (by omega) (by omega)]; exact cr27_0 hS
  · rw [hR _ _ (by omega) (by omega) (by omega) (by omega)]; exact cr27_1 hS
  · rw [hR _ _ (by omega) (by omega) (by omega) (by omega)]; exact cr27_2 hS
theorem cG_S {K : fh_K} {M M' : fh_M} {x : Nat} (h : cG x M M') (hS : cS K M x) : cS K M' x := cS_keep hS (fun _ _ _ => rfl) (fun a k _ _ q _ => h.2.2 a k q)
theorem cMk_keep {K K' : fh_K} {M M' : fh_M} {x i j : Nat} {σ σ' : sT} (h : cMk K M x σ i) (hr : M'.2.2 (x + 5) j = M.2.2 (x + 5) i) (hK : ∀ a, x + 63 ≤ a → K a ≠ (0, 0) → K' a = K a) (hI : ∀ a k, x + 63 ≤ a → K a ≠ (0, 0) → K a ≠ (8, 0) → M'.1 a k = M.1 a k) (hR : ∀ a k, x + 63 ≤ a → K a ≠ (0, 0) → M'.2.2 a k = M.2.2 a k) (e3 : σ' 3 j = σ 3 i) (e4 : σ' 4 j = σ 4 i) (e5 : σ' 5 j = σ 5 i) (e6 : σ' 6 j = σ 6 i) (e2 : ∀ k, k < σ 3 i → mF σ' j k = mF σ i k) : cMk K' M' x σ' j := by
  obtain ⟨a, ak, h1, h2, h3, ⟨g1, g2, g3, g4, g5, g6⟩, h5⟩ := h
  have na : K a ≠ (0, 0) := by rw [g1]; decide
  have nak : K ak ≠ (0, 0) := by rw [g3]; exact fun q => by cases q
  have na8 : K a ≠ (8, 0) := by rw [g1]; decide
  have nak8 : K ak ≠ (8, 0) := by rw [g3]; exact fun q => by cases q
  refine ⟨a, ak, hr.trans h1, h2, h3, ⟨?_, ?_, ?_, ?_, ?_, ?_⟩, ?_⟩
  · rw [hK a h2 na]; exact g1
  · rw [hR a 0 h2 na]; exact g2
  · rw [hK ak h3 nak, e3]; exact g3
  · rw [hI a 1 h2 na na8, e4]; exact g4
  · rw [hI a 2 h2 na na8, e5]; exact g5
  · intro k hk
    rw [e3] at hk
    rw [hI ak k h3 nak nak8, e2 k hk]; exact g6 k hk
  · rw [hI a 3 h2 na na8, e6]; exact h5
theorem cTn_keep {K K' : fh_K} {M M' : fh_M} {x t : Nat} {σ σ' : sT} (h : cTn K M x σ t) (hr : M'.2.2 (x + 14) t = M.2.2 (x + 14) t) (hK : ∀ a, x + 63 ≤ a → K a ≠ (0, 0) → K' a = K a) (hI : ∀ a k, x + 63 ≤ a → K a ≠ (0, 0) → K a ≠ (8, 0) → M'.1 a k = M.1 a k) (e : ∀ c, 15 ≤ c → c ≤ 19 → σ' c t = σ c t) (e4 : σ' 4 (σ 16 t) = σ 4 (σ 16 t)) : cTn K' M' x σ' t := by
  obtain ⟨a, h1, h2, h3, g1, g2, g3, g4, g5⟩ := h
  have na : K a ≠ (0, 0) := by rw [h3]; decide
  have na8 : K a ≠ (8, 0) := by rw [h3]; decide
  refine ⟨a, hr.trans h1, h2, ?_, ?_, ?_, ?_, ?_, ?_⟩
  · rw [hK a h2 na]; exact h3
  · rw [hI a _ h2 na na8, e 15 (by omega) (by omega)]; exact g1
  · rw [hI a _ h2 na na8, e 16 (by omega) (by omega)]; exact g2
  · unfold carr
    rw [hI a _ h2 na na8, e 16 (by omega) (by omega), e 17 (by omega) (by omega), e4]; exact g3
  · rw [hI a _ h2 na na8, e 18 (by omega) (by omega)]; exact g4
  · rw [hI a _ h2 na na8, e 19 (by omega) (by omega)]; exact g5
theorem cFl_keep {K K' : fh_K} {M M' : fh_M} {x i : Nat} {σ : sT} (h : cFl K M x σ i) (hr : M'.2.2 (x + 6) i = M.2.2 (x + 6) i) (hK : ∀ a, x + 63 ≤ a → K a ≠ (0, 0) → K' a = K a) (hI : ∀ a k, x + 63 ≤ a → K a ≠ (0, 0) → M'.1 a k = M.1 a k) (hR : ∀ a k, x + 63 ≤ a → K a ≠ (0, 0) → M'.2.2 a k = M.2.2 a k) : cFl K' M' x σ i := by
  obtain ⟨a, ab, h1, h2, h3, g1, g2, g3, g4, g5, g6, g7, g8, g9, g10, g11, g12⟩ := h
  have na : K a ≠ (0, 0) := by rw [g1]; decide
  have nab : K ab ≠ (0, 0) := by rw [g3]; exact fun q => by cases q
  refine ⟨a, ab, hr.trans h1, h2, h3, ?_, ?_, ?_, ?_, ?_, ?_, ?_, ?_, ?_, ?_, ?_, ?_⟩
  · rw [hK a h2 na]; exact g1
  · rw [hR a 0 h2 na]; exact g2
  · rw [hK ab h3 nab]; exact g3
  · intro k hk; rw [hI ab k h3 nab]; exact g4 k hk
  · rw [hI a _ h2 na]; exact g5
  · rw [hI a _ h2 na]; exact g6
  · rw [hI a _ h2 na]; exact g7
  · rw [hI a _ h2 na]; exact g8
  · rw [hI a _ h2 na]; exact g9
  · rw [hI a _ h2 na]; exact g10
  · rw [hI a _ h2 na]; exact g11
  · rw [hI a _ h2 na]; exact g12
theorem cG_P {K : fh_K} {M M' : fh_M} {x : Nat} {σ : sT} (h : cG x M M') (hP : cP K M x σ) : cP K M' x σ := by
  obtain ⟨⟨a1, a2, a3⟩, ⟨b1, b2⟩, c1, ⟨d1, d2⟩, e1, ⟨p, p1, p2⟩, g1, g2, g3, g4⟩ := hP
  have hI : ∀ a k, x + 63 ≤ a → M'.1 a k = M.1 a k := fun a k q => h.1 a k (by unfold cZ; omega)
  have hR : ∀ a k, x + 63 ≤ a → M'.2.2 a k = M.2.2 a k := fun a k q => h.2.2 a k (by omega)
  refine ⟨⟨?_, ?_, ?_⟩, ⟨?_, fun k hk => ?_⟩, fun j hj => ⟨?_, ?_⟩, ⟨?_, fun r hr => ⟨?_, ?_⟩⟩, ?_, ⟨p, p1, ?_⟩, fun i hi => ?_, fun i hi => ?_, fun t ht => ?_, fun i j hi hj e => ?_⟩
  · rw [h.1 _ _ (by unfold cZ; omega)]; exact a1
  · rw [h.1 _ _ (by unfold cZ; omega)]; exact a2
  · rw [h.1 _ _ (by unfold cZ; omega)]; exact a3
  · rw [h.1 _ _ (by unfold cZ; omega)]; exact b1
  · rw [h.1 _ _ (by unfold cZ; omega)]; exact b2 k hk
  · rw [h.1 _ _ (by unfold cZ; omega)]; exact (c1 j hj).1
  · rw [h.1 _ _ (by unfold cZ; omega)]; exact (c1 j hj).2
  · rw [h.1 _ _ (by unfold cZ; omega)]; exact d1
  · rw [h.1 _ _ (by unfold cZ; omega)]; exact (d2 r hr).1
  · rw [h.1 _ _ (by unfold cZ; omega)]; exact (d2 r hr).2
  · rw [h.1 _ _ (by unfold cZ; omega)]; exact e1
  · rw [h.2.1 _ _ (by omega)]; exact p2
  · exact cMk_keep (g1 i hi) (h.2.2 _ _ (by omega)) (fun _ _ _ => rfl) (fun a k q _ _ => hI a k q) (fun a k q _ => hR a k q) rfl rfl rfl rfl (fun _ _ => rfl)
  · exact cFl_keep (g2 i hi) (h.2.2 _ _ (by omega)) (fun _ _ _ => rfl) (fun a k q _ => hI a k q) (fun a k q _ => hR a k q)
  · exact cTn_keep (g3 t ht) (h.2.2 _ _ (by omega)) (fun _ _ _ => rfl) (fun a k q _ _ => hI a k q) (fun _ _ _ => rfl) rfl
  · rw [h.2.2 _ _ (by omega), h.2.2 _ _ (by omega)] at e; exact g4 i j hi hj e
/-- all of it: class at x, model at x + 32 -/
def Inv (sz : Nat) (K : fh_K) (M : fh_M) (x : Nat) (σ : sT) : Prop := Val σ ∧ cS K M x ∧ cP K M x σ ∧ mS K M (x + 32) ∧ mP M (x + 32) σ ∧ (∀ a, sz ≤ a → K a = (0, 0)) ∧ x + 63 ≤ sz
theorem mS_keep {K K' : fh_K} {M M' : fh_M} {y : Nat} (hS : mS K M y) (hK : ∀ a, y ≤ a → a < y + 31 → K' a = K a) (hR : M'.2.2 y = M.2.2 y) : mS K' M' y := by
  refine ⟨by rw [hK y (by omega) (by omega)]; exact hS.1, hR.trans hS.2.1, ?_, ?_, ?_, ?_, ?_, ?_, ?_, ?_, ?_, ?_, ?_, ?_, ?_, ?_, ?_, ?_, ?_, ?_, ?_, ?_, ?_, ?_, ?_, ?_, ?_, ?_, ?_, ?_, ?_, ?_⟩
  · rw [hK _ (by omega) (by omega)]; exact mk1 hS
  · rw [hK _ (by omega) (by omega)]; exact mk2 hS
  · rw [hK _ (by omega) (by omega)]; exact mk3 hS
  · rw [hK _ (by omega) (by omega)]; exact mk4 hS
  · rw [hK _ (by omega) (by omega)]; exact mk5 hS
  · rw [hK _ (by omega) (by omega)]; exact mk6 hS
  · rw [hK _ (by omega) (by omega)]; exact mk7 hS
  · rw [hK _ (by omega) (by omega)]; exact mk8 hS
  · rw [hK _ (by omega) (by omega)]; exact mk9 hS
  · rw [hK _ (by omega) (by omega)]; exact mk10 hS
  · rw [hK _ (by omega) (by omega)]; exact mk11 hS
  · rw [hK _ (by omega) (by omega)]; exact mk12 hS
  · rw [hK _ (by omega) (by omega)]; exact mk13 hS
  · rw [hK _ (by omega) (by omega)]; exact mk14 hS
  · rw [hK _ (by omega) (by omega)]; exact mk15 hS
  · rw [hK _ (by omega) (by omega)]; exact mk16 hS
  · rw [hK _ (by omega) (by omega)]; exact mk17 hS
  · rw [hK _ (by omega) (by omega)]; exact mk18 hS
  · rw [hK _ (by omega) (by omega)]; exact mk19 hS
  · rw [hK _ (by omega) (by omega)]; exact mk20 hS
  · rw [hK _ (by omega) (by omega)]; exact mk21 hS
  · rw [hK _ (by omega) (by omega)]; exact mk22 hS
  · rw [hK _ (by omega) (by omega)]; exact mk23 hS
  · rw [hK _ (by omega) (by omega)]; exact mk24 hS
  · rw [hK _ (by omega) (by omega)]; exact mk25 hS
  · rw [hK _ (by omega) (by omega)]; exact mk26 hS
  · rw [hK _ (by omega) (by omega)]; exact mk27 hS
  · rw [hK _ (by omega) (by omega)]; exact mk28 hS
  · rw [hK _ (by omega) (by omega)]; exact mk29 hS
  · rw [hK _ (by omega) (by omega)]; exact mk30 hS
theorem mP_keep {M M' : fh_M} {y : Nat} {σ : sT} (hP : mP M y σ) (hI : ∀ a k, y ≤ a → a < y + 31 → M'.1 a k = M.1 a k) : mP M' y σ := by
  obtain ⟨h1, h2, h3, h4⟩ := hP
  refine ⟨fun k hk => ?_, fun j hj => ?_, fun c j hc => ?_, fun j => ?_⟩
  · rw [hI _ _ (by omega) (by omega)]; exact h1 k hk
  · rw [hI _ _ (by omega) (by omega)]; exact h2 j hj
  · rw [hI _ _ (by omega) (by omega)]; exact h3 c j hc
  · rw [hI _ _ (by omega) (by omega)]; exact h4 j
/-- the class's scratch is changed alone -/
theorem Inv_cG {sz : Nat} {K : fh_K} {M M' : fh_M} {x : Nat} {σ : sT} (hI : Inv sz K M x σ) (h : cG x M M') : Inv sz K M' x σ := by
  obtain ⟨v, s1, p1, s2, p2, k1, k2⟩ := hI
  exact ⟨v, cG_S h s1, cG_P h p1, mS_keep s2 (fun _ _ _ => rfl) (by funext k; exact h.2.2 _ _ (by omega)), mP_keep p2 (fun a k q1 q2 => h.1 a k (by unfold cZ; omega)), k1, k2⟩
/-- the model's scratch is changed alone -/
theorem mG_cG {x : Nat} {M M' : fh_M} (h : mG (x + 32) M M') : (∀ a k, ¬ (x + 32 ≤ a ∧ a < x + 63) → M'.1 a k = M.1 a k) ∧ M'.2 = M.2 := ⟨fun a k q => h.2 a k (by unfold mZ; omega), h.1⟩
theorem c_other {K : fh_K} {M M' : fh_M} {x : Nat} {σ : sT} (hS : cS K M x) (hP : cP K M x σ) (h : (∀ a k, ¬ (x + 32 ≤ a ∧ a < x + 63) → M'.1 a k = M.1 a k) ∧ M'.2 = M.2) : cS K M' x ∧ cP K M' x σ := by
  obtain ⟨h1, h2⟩ := h
  have e21 : M'.2.1 = M.2.1 := by rw [h2]
  have e22 : M'.2.2 = M.2.2 := by rw [h2]
  refine ⟨cS_keep hS (fun _ _ _ => rfl) (fun a k _ _ _ _ => by rw [e22]), ?_⟩
  obtain ⟨⟨a1, a2, a3⟩, ⟨b1, b2⟩, c1, ⟨d1, d2⟩, e1, ⟨p, p1, p2⟩, g1, g2, g3, g4⟩ := hP
  have hI : ∀ a k, x + 63 ≤ a → M'.1 a k = M.1 a k := fun a k q => h1 a k (by omega)
  have hR : ∀ a k, x + 63 ≤ a → M'.2.2 a k = M.2.2 a k := fun a k q => by rw [e22]
  refine ⟨⟨?_, ?_, ?_⟩, ⟨?_, fun k hk => ?_⟩, fun j hj => ⟨?_, ?_⟩, ⟨?_, fun r hr => ⟨?_, ?_⟩⟩, ?_, ⟨p, p1, ?_⟩, fun i hi => ?_, fun i hi => ?_, fun t ht => ?_, fun i j hi hj e => ?_⟩
  · rw [h1 _ _ (by omega)]; exact a1
  · rw [h1 _ _ (by omega)]; exact a2
  · rw [h1 _ _ (by omega)]; exact a3
  · rw [h1 _ _ (by omega)]; exact b1
  · rw [h1 _ _ (by omega)]; exact b2 k hk
  · rw [h1 _ _ (by omega)]; exact (c1 j hj).1
  · rw [h1 _ _ (by omega)]; exact (c1 j hj).2
  · rw [h1 _ _ (by omega)]; exact d1
  · rw [h1 _ _ (by omega)]; exact (d2 r hr).1
  · rw [h1 _ _ (by omega)]; exact (d2 r hr).2
  · rw [h1 _ _ (by omega)]; exact e1
  · rw [e21]; exact p2
  · exact cMk_keep (g1 i hi) (by rw [e22]) (fun _ _ _ => rfl) (fun a k q _ _ => hI a k q) (fun a k q _ => hR a k q) rfl rfl rfl rfl (fun _ _ => rfl)
  · exact cFl_keep (g2 i hi) (by rw [e22]) (fun _ _ _ => rfl) (fun a k q _ => hI a k q) (fun a k q _ => hR a k q)
  · exact cTn_keep (g3 t ht) (by rw [e22]) (fun _ _ _ => rfl) (fun a k q _ _ => hI a k q) (fun _ _ _ => rfl) rfl
  · rw [e22] at e; exact g4 i j hi hj e
theorem Inv_mG {sz : Nat} {K : fh_K} {M M' : fh_M} {x : Nat} {σ : sT} (hI : Inv sz K M x σ) (h : mG (x + 32) M M') : Inv sz K M' x σ := by
  obtain ⟨v, s1, p1, s2, p2, k1, k2⟩ := hI
  obtain ⟨q1, q2⟩ := c_other s1 p1 (mG_cG h)
  exact ⟨v, q1, q2, mG_S h s2, mG_P h p2, k1, k2⟩
