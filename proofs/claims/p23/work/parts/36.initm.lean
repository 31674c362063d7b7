def lmI0 : List (Nat × Nat × Nat × Int32) := [(6027, 9, 10, 255), (5893, 1, 2, -4), (5765, 1, 2, -4), (5637, 1, 2, -4), (5509, 1, 2, -4), (10, 9, 10, 255), (5123, 6, 7, 1), (5123, 5, 6, -4), (5123, 4, 5, -4), (5123, 3, 4, 0), (5123, 2, 3, 0), (5123, 1, 2, 2), (5123, 0, 1, 31), (5059, 6, 7, 1), (5059, 5, 6, -4), (5059, 4, 5, -4), (5059, 3, 4, 0), (5059, 2, 3, 0), (5059, 1, 2, 2), (5059, 0, 1, 31), (4995, 6, 7, 1), (4995, 5, 6, -4), (4995, 4, 5, -4), (4995, 3, 4, 0), (4995, 2, 3, 0), (4995, 1, 2, 2), (4995, 0, 1, 31), (3086, 0, 64, -4), (3022, 0, 64, -4), (3279, 0, 7, 0), (2958, 0, 64, 0), (2894, 0, 64, 0), (2689, 13, 14, 0), (2689, 12, 13, 0), (2689, 11, 12, 0), (2689, 10, 11, 0), (3213, 0, 8, 0), (3149, 0, 8, 0), (2829, 0, 8, 2), (2689, 1, 2, 0), (782, 0, 64, -4), (718, 0, 64, -4), (975, 0, 7, 0), (654, 0, 64, 0), (590, 0, 64, 0), (385, 13, 14, 0), (385, 12, 13, 0), (385, 11, 12, 0), (385, 10, 11, 0), (909, 0, 8, 0), (845, 0, 8, 0), (525, 0, 8, 2), (385, 1, 2, 0)]
def lmG : List (Nat × Nat × Nat) := [(6027, 42, 7773), (6027, 41, 7708), (6027, 40, 7644), (6027, 38, 7582), (6027, 37, 7502), (6027, 34, 7438), (6027, 33, 7374), (6027, 32, 7310), (6027, 31, 7246), (6027, 30, 7182), (6027, 29, 7131), (6027, 28, 7067), (6027, 27, 7003), (6027, 26, 6938), (6027, 25, 6874), (6027, 22, 6807), (6027, 21, 6745), (6027, 20, 6671), (6027, 19, 6607), (6027, 18, 6543), (6027, 10, 6486), (6027, 7, 6423), (6027, 6, 6360), (6027, 5, 6285), (6027, 4, 6229), (6027, 2, 6157), (6027, 1, 6101), (5459, 3, 5893), (5893, 0, 5972), (5459, 2, 5765), (5765, 0, 5844), (5459, 1, 5637), (5637, 0, 5716), (5459, 0, 5509), (5509, 0, 5588), (10, 13, 5459), (10, 12, 5312), (5312, 0, 5192), (5312, 1, 5392), (10, 11, 5192), (5192, 1, 4995), (5192, 0, 385), (5192, 3, 5261), (10, 8, 5123), (10, 7, 5059), (10, 6, 4995), (10, 5, 2689), (2770, 23, 4937), (2770, 22, 4873), (2770, 21, 4809), (2770, 20, 4745), (2770, 19, 4681), (2770, 18, 4617), (2770, 17, 4553), (2770, 16, 4489), (2770, 15, 4425), (2770, 14, 4361), (2770, 13, 4297), (2770, 12, 4233), (2770, 11, 4169), (2770, 10, 4105), (2770, 9, 4041), (2770, 8, 3977), (2770, 7, 3913), (2770, 6, 3849), (2770, 5, 3785), (2770, 4, 3721), (2770, 3, 3657), (2770, 2, 3593), (2770, 1, 3529), (2770, 0, 3465), (2689, 15, 3404), (2689, 14, 3340), (2689, 9, 3279), (2689, 8, 3213), (2689, 7, 3149), (2689, 6, 3086), (2689, 5, 3022), (2689, 4, 2958), (2689, 3, 2894), (2689, 2, 2829), (2689, 0, 2770), (10, 4, 385), (466, 23, 2633), (466, 22, 2569), (466, 21, 2505), (466, 20, 2441), (466, 19, 2377), (466, 18, 2313), (466, 17, 2249), (466, 16, 2185), (466, 15, 2121), (466, 14, 2057), (466, 13, 1993), (466, 12, 1929), (466, 11, 1865), (466, 10, 1801), (466, 9, 1737), (466, 8, 1673), (466, 7, 1609), (466, 6, 1545), (466, 5, 1481), (466, 4, 1417), (466, 3, 1353), (466, 2, 1289), (466, 1, 1225), (466, 0, 1161), (385, 15, 1100), (385, 14, 1036), (385, 9, 975), (385, 8, 909), (385, 7, 845), (385, 6, 782), (385, 5, 718), (385, 4, 654), (385, 3, 590), (385, 2, 525), (385, 0, 466), (10, 3, 324), (324, 0, 199), (10, 2, 258), (258, 0, 199), (10, 1, 199), (199, 0, 70), (10, 0, 70), (70, 0, 145)]
def lmI : List (Nat × Nat × Nat × Int32) := [(6607, 6, 7, 1), (6607, 5, 6, -4), (6607, 4, 5, -4), (6607, 3, 4, 0), (6607, 2, 3, 0), (6607, 1, 2, 2), (6607, 0, 1, 31), (6543, 6, 7, 1), (6543, 5, 6, -4), (6543, 4, 5, -4), (6543, 3, 4, 0), (6543, 2, 3, 0), (6543, 1, 2, 2), (6543, 0, 1, 31), (6671, 6, 7, 1), (6671, 5, 6, -4), (6671, 4, 5, -4), (6671, 3, 4, 0), (6671, 2, 3, 0), (6671, 1, 2, 2), (6671, 0, 1, 31), (6745, 0, 7, 0), (6027, 24, 25, 0), (6027, 23, 24, 0), (6027, 9, 10, 255), (6157, 0, 8, 2), (6101, 0, 250, 0), (6027, 0, 1, 0), (6360, 0, 8, 0), (6285, 0, 8, 2), (6027, 8, 9, 0), (6027, 3, 4, 0), (7644, 0, 4, -4), (6027, 9, 10, 255), (5893, 1, 2, -4), (5765, 1, 2, -4), (5637, 1, 2, -4), (5509, 1, 2, -4), (10, 9, 10, 255), (5123, 6, 7, 1), (5123, 5, 6, -4), (5123, 4, 5, -4), (5123, 3, 4, 0), (5123, 2, 3, 0), (5123, 1, 2, 2), (5123, 0, 1, 31), (5059, 6, 7, 1), (5059, 5, 6, -4), (5059, 4, 5, -4), (5059, 3, 4, 0), (5059, 2, 3, 0), (5059, 1, 2, 2), (5059, 0, 1, 31), (4995, 6, 7, 1), (4995, 5, 6, -4), (4995, 4, 5, -4), (4995, 3, 4, 0), (4995, 2, 3, 0), (4995, 1, 2, 2), (4995, 0, 1, 31), (3086, 0, 64, -4), (3022, 0, 64, -4), (3279, 0, 7, 0), (2958, 0, 64, 0), (2894, 0, 64, 0), (2689, 13, 14, 0), (2689, 12, 13, 0), (2689, 11, 12, 0), (2689, 10, 11, 0), (3213, 0, 8, 0), (3149, 0, 8, 0), (2829, 0, 8, 2), (2689, 1, 2, 0), (782, 0, 64, -4), (718, 0, 64, -4), (975, 0, 7, 0), (654, 0, 64, 0), (590, 0, 64, 0), (385, 13, 14, 0), (385, 12, 13, 0), (385, 11, 12, 0), (385, 10, 11, 0), (909, 0, 8, 0), (845, 0, 8, 0), (525, 0, 8, 2), (385, 1, 2, 0)]
def lmI1 : List (Nat × Nat × Nat × Int32) := [(6671, 6, 7, 1), (6671, 5, 6, -4), (6671, 4, 5, -4), (6671, 3, 4, 0), (6671, 2, 3, 0), (6671, 1, 2, 2), (6671, 0, 1, 31), (6745, 0, 7, 0), (6027, 24, 25, 0), (6027, 23, 24, 0), (6027, 9, 10, 255), (6157, 0, 8, 2), (6101, 0, 250, 0), (6027, 0, 1, 0), (6360, 0, 8, 0), (6285, 0, 8, 2), (6027, 8, 9, 0), (6027, 3, 4, 0), (7644, 0, 4, -4), (6027, 9, 10, 255), (5893, 1, 2, -4), (5765, 1, 2, -4), (5637, 1, 2, -4), (5509, 1, 2, -4), (10, 9, 10, 255), (5123, 6, 7, 1), (5123, 5, 6, -4), (5123, 4, 5, -4), (5123, 3, 4, 0), (5123, 2, 3, 0), (5123, 1, 2, 2), (5123, 0, 1, 31), (5059, 6, 7, 1), (5059, 5, 6, -4), (5059, 4, 5, -4), (5059, 3, 4, 0), (5059, 2, 3, 0), (5059, 1, 2, 2), (5059, 0, 1, 31), (4995, 6, 7, 1), (4995, 5, 6, -4), (4995, 4, 5, -4), (4995, 3, 4, 0), (4995, 2, 3, 0), (4995, 1, 2, 2), (4995, 0, 1, 31), (3086, 0, 64, -4), (3022, 0, 64, -4), (3279, 0, 7, 0), (2958, 0, 64, 0), (2894, 0, 64, 0), (2689, 13, 14, 0), (2689, 12, 13, 0), (2689, 11, 12, 0), (2689, 10, 11, 0), (3213, 0, 8, 0), (3149, 0, 8, 0), (2829, 0, 8, 2), (2689, 1, 2, 0), (782, 0, 64, -4), (718, 0, 64, -4), (975, 0, 7, 0), (654, 0, 64, 0), (590, 0, 64, 0), (385, 13, 14, 0), (385, 12, 13, 0), (385, 11, 12, 0), (385, 10, 11, 0), (909, 0, 8, 0), (845, 0, 8, 0), (525, 0, 8, 2), (385, 1, 2, 0)]
theorem mem_mr {sh : List Nat} {n : Nat} {xs : Nat → Int32} {I : List (Nat × Nat × Nat × Int32)} {G : List (Nat × Nat × Nat)} (h : ∀ q ∈ mrt, GK G 6027 q.1 = some q.2) : MR (mem sh n xs I G) := h
theorem LK_one {I : List (Nat × Nat × Nat × Int32)} {a m : Nat} {v : Int32} (h : I.filter (fun q => q.1 == a) = [(a, 0, m, v)]) {k : Nat} (hk : k < m) : LK I a k = v := by
  rw [LK_f, h, LK, if_pos ⟨rfl, Nat.zero_le _, hk⟩]
set_option maxRecDepth 20000 in
theorem mt_mem (sh : List Nat) {n : Nat} {xs : Nat → Int32} : mt0 (mem sh n xs lmI0 lmG) = mem sh n xs lmI lmG := by
  have e1 : mt1 (mem sh n xs lmI0 lmG) = mem sh n xs lmI1 lmG := by
    unfold mt1
    rw [mem_fl rfl]
    unfold fb0
    rw [mem_si rfl, mem_si rfl, mem_fl rfl, mem_fl rfl]
    unfold kb0 kb2 kb1
    rw [show gi (mem sh n xs _ lmG) 6027 3 = 0 from (mem_gi rfl).trans (by decide +kernel)]
    rw [rwm_c _ 6101 250 _ 0 (fun k hk => (mem_gi rfl).trans (LK_no (by decide +kernel) k))]
    rw [rwm_c _ 6157 8 _ 2 (fun k hk => (mem_gi rfl).trans (LK_one (by decide +kernel) hk))]
    rw [mem_si rfl, mem_fl rfl, mem_fl rfl, mem_si rfl, mem_si rfl, mem_si rfl]
    unfold fu0
    rw [mem_fl rfl, rwm7, mem_si rfl, mem_si rfl, mem_si rfl, mem_si rfl, mem_si rfl, mem_si rfl, mem_si rfl]
    rfl
  unfold mt0
  rw [e1]
  have e2 : ∀ k, k < 7 → gi (mem sh n xs lmI1 lmG) 6671 k = dv k := by
    intro k hk
    rw [mem_gi rfl]
    have : ∀ k, k < 7 → LK lmI1 6671 k = dv k := by decide +kernel
    exact this k hk
  rw [rwm_cg _ 6543 7 _ dv e2, rwm_cg _ 6607 7 _ dv e2]
  rw [rwm7 (mem sh n xs lmI1 lmG) 6543, mem_si rfl, mem_si rfl, mem_si rfl, mem_si rfl, mem_si rfl, mem_si rfl, mem_si rfl]
  rw [rwm7, mem_si rfl, mem_si rfl, mem_si rfl, mem_si rfl, mem_si rfl, mem_si rfl, mem_si rfl]
  rfl
set_option maxRecDepth 20000 in
theorem sM_init {sh : List Nat} {n : Nat} {xs : Nat → Int32} {K : Mm → Prop} (hs : sh.length = 95) (h : ∀ sh : List Nat, sh.length = 122 → K (mem sh n xs lmI lmG)) : CV mM_init [.ref 6027] (mem sh n xs lcI lcG) K := by
  refine call_of rfl (Nat.le_of_ble_eq_true rfl) rfl ?_
  refine vM_init_0 ?_
  refine vM_init_4 (b' := (26, 1634)) (by decide) rfl ?_
  rw [mem_new hs 21 6101 rfl rfl (by decide +kernel) (by decide +kernel)]
  replace hs := ap_len hs 21
  generalize sh ++ [21] = sh at hs ⊢
  refine vM_init_13 (b' := (25, 1626)) (by decide) rfl ?_
  rw [mem_new hs 13 6157 rfl rfl (by decide +kernel) (by decide +kernel)]
  replace hs := ap_len hs 13
  generalize sh ++ [13] = sh at hs ⊢
  refine vM_init_21 (b' := (24, 1376)) (by decide) rfl ?_
  rw [mem_new hs 21 6229 rfl rfl (by decide +kernel) (by decide +kernel)]
  replace hs := ap_len hs 21
  generalize sh ++ [21] = sh at hs ⊢
  refine vM_init_30 (b' := (23, 1368)) (by decide) rfl ?_
  rw [mem_new hs 13 6285 rfl rfl (by decide +kernel) (by decide +kernel)]
  replace hs := ap_len hs 13
  generalize sh ++ [13] = sh at hs ⊢
  refine vM_init_38 (b' := (22, 1360)) (by decide) rfl ?_
  rw [mem_new hs 24 6360 rfl rfl (by decide +kernel) (by decide +kernel)]
  replace hs := ap_len hs 24
  generalize sh ++ [24] = sh at hs ⊢
  refine vM_init_46 (b' := (21, 1335)) (by decide) rfl ?_
  rw [mem_new hs 23 6423 rfl rfl (by decide +kernel) (by decide +kernel)]
  replace hs := ap_len hs 23
  generalize sh ++ [23] = sh at hs ⊢
  refine vM_init_54 (b' := (20, 935)) (by decide) rfl ?_
  rw [mem_si rfl]
  rw [mem_new hs 22 6486 rfl rfl (by decide +kernel) (by decide +kernel)]
  replace hs := ap_len hs 22
  generalize sh ++ [22] = sh at hs ⊢
  refine vM_init_70 (b' := (19, 928)) (by decide) rfl ?_
  rw [mem_new hs 15 6543 rfl rfl (by decide +kernel) (by decide +kernel)]
  replace hs := ap_len hs 15
  generalize sh ++ [15] = sh at hs ⊢
  refine vM_init_78 (b' := (18, 921)) (by decide) rfl ?_
  rw [mem_new hs 15 6607 rfl rfl (by decide +kernel) (by decide +kernel)]
  replace hs := ap_len hs 15
  generalize sh ++ [15] = sh at hs ⊢
  refine vM_init_86 (b' := (17, 914)) (by decide) rfl ?_
  rw [mem_new hs 15 6671 rfl rfl (by decide +kernel) (by decide +kernel)]
  replace hs := ap_len hs 15
  generalize sh ++ [15] = sh at hs ⊢
  refine vM_init_94 (b' := (16, 907)) (by decide) rfl ?_
  rw [mem_new hs 25 6745 rfl rfl (by decide +kernel) (by decide +kernel)]
  replace hs := ap_len hs 25
  generalize sh ++ [25] = sh at hs ⊢
  refine vM_init_102 (b' := (15, 882)) (by decide) rfl ?_
  rw [mem_new hs 23 6807 rfl rfl (by decide +kernel) (by decide +kernel)]
  replace hs := ap_len hs 23
  generalize sh ++ [23] = sh at hs ⊢
  refine vM_init_110 (b' := (14, 857)) (by decide) rfl ?_
  rw [mem_new hs 26 6874 rfl rfl (by decide +kernel) (by decide +kernel)]
  replace hs := ap_len hs 26
  generalize sh ++ [26] = sh at hs ⊢
  refine vM_init_118 (b' := (13, 832)) (by decide) rfl ?_
  rw [mem_new hs 26 6938 rfl rfl (by decide +kernel) (by decide +kernel)]
  replace hs := ap_len hs 26
  generalize sh ++ [26] = sh at hs ⊢
  refine vM_init_126 (b' := (12, 824)) (by decide) rfl ?_
  rw [mem_new hs 27 7003 rfl rfl (by decide +kernel) (by decide +kernel)]
  replace hs := ap_len hs 27
  generalize sh ++ [27] = sh at hs ⊢
  refine vM_init_134 (b' := (11, 816)) (by decide) rfl ?_
  rw [mem_new hs 27 7067 rfl rfl (by decide +kernel) (by decide +kernel)]
  replace hs := ap_len hs 27
  generalize sh ++ [27] = sh at hs ⊢
  refine vM_init_142 (b' := (10, 808)) (by decide) rfl ?_
  rw [mem_new hs 27 7131 rfl rfl (by decide +kernel) (by decide +kernel)]
  replace hs := ap_len hs 27
  generalize sh ++ [27] = sh at hs ⊢
  refine vM_init_150 (b' := (9, 744)) (by decide) rfl ?_
  rw [mem_new hs 14 7182 rfl rfl (by decide +kernel) (by decide +kernel)]
  replace hs := ap_len hs 14
  generalize sh ++ [14] = sh at hs ⊢
  refine vM_init_158 (b' := (8, 680)) (by decide) rfl ?_
  rw [mem_new hs 14 7246 rfl rfl (by decide +kernel) (by decide +kernel)]
  replace hs := ap_len hs 14
  generalize sh ++ [14] = sh at hs ⊢
  refine vM_init_166 (b' := (7, 616)) (by decide) rfl ?_
  rw [mem_new hs 14 7310 rfl rfl (by decide +kernel) (by decide +kernel)]
  replace hs := ap_len hs 14
  generalize sh ++ [14] = sh at hs ⊢
  refine vM_init_174 (b' := (6, 552)) (by decide) rfl ?_
  rw [mem_new hs 14 7374 rfl rfl (by decide +kernel) (by decide +kernel)]
  replace hs := ap_len hs 14
  generalize sh ++ [14] = sh at hs ⊢
  refine vM_init_182 (b' := (5, 488)) (by decide) rfl ?_
  rw [mem_new hs 14 7438 rfl rfl (by decide +kernel) (by decide +kernel)]
  replace hs := ap_len hs 14
  generalize sh ++ [14] = sh at hs ⊢
  refine vM_init_190 (b' := (4, 424)) (by decide) rfl ?_
  rw [mem_new hs 14 7502 rfl rfl (by decide +kernel) (by decide +kernel)]
  replace hs := ap_len hs 14
  generalize sh ++ [14] = sh at hs ⊢
  refine vM_init_198 (b' := (3, 168)) (by decide) rfl ?_
  rw [mem_new hs 30 7582 rfl rfl (by decide +kernel) (by decide +kernel)]
  replace hs := ap_len hs 30
  generalize sh ++ [30] = sh at hs ⊢
  refine vM_init_207 (b' := (2, 164)) (by decide) rfl ?_
  rw [mem_new hs 28 7644 rfl rfl (by decide +kernel) (by decide +kernel)]
  replace hs := ap_len hs 28
  generalize sh ++ [28] = sh at hs ⊢
  refine vM_init_214 (b' := (1, 160)) (by decide) rfl ?_
  rw [mem_new hs 28 7708 rfl rfl (by decide +kernel) (by decide +kernel)]
  replace hs := ap_len hs 28
  generalize sh ++ [28] = sh at hs ⊢
  refine vM_init_221 (b' := (0, 0)) (by decide) rfl ?_
  rw [mem_new hs 29 7773 rfl rfl (by decide +kernel) (by decide +kernel)]
  replace hs := ap_len hs 29
  generalize sh ++ [29] = sh at hs ⊢
  refine sM_init_tail (mem_mr (by decide +kernel)) ?_
  have hh := h sh hs
  rw [← mt_mem sh] at hh
  exact hh
