theorem vC_end166 {M : Mm} {b : Nat × Nat} {K : Mm → Prop} {v0 : Nat} {v1 : Int32} (hv : 4 ≤ v1) (h : K M) : X mC_init 166 [(0, .ref v0), (1, .int v1)] [] M b (QV K) := by
  refine x_iload_n (pc := 166) dC_init_166 rfl (q := 1) rfl ?_
  refine x_iconst (pc := 167) dC_init_167 (v := 4) rfl ?_
  refine x_icmp_ge (pc := 168) dC_init_168 (t := 190) rfl (fun q1 => ?_) (fun q1 => absurd hv q1)
  exact x_retQV (pc := 190) dC_init_190 rfl h
def lbI0 : List (Nat × Nat × Nat × Int32) := [(782, 0, 64, -4), (718, 0, 64, -4), (975, 0, 7, 0), (654, 0, 64, 0), (590, 0, 64, 0), (385, 13, 14, 0), (385, 12, 13, 0), (385, 11, 12, 0), (385, 10, 11, 0), (909, 0, 8, 0), (845, 0, 8, 0), (525, 0, 8, 2), (385, 1, 2, 0)]
def lbG0 : List (Nat × Nat × Nat) := [(10, 4, 385), (466, 23, 2633), (466, 22, 2569), (466, 21, 2505), (466, 20, 2441), (466, 19, 2377), (466, 18, 2313), (466, 17, 2249), (466, 16, 2185), (466, 15, 2121), (466, 14, 2057), (466, 13, 1993), (466, 12, 1929), (466, 11, 1865), (466, 10, 1801), (466, 9, 1737), (466, 8, 1673), (466, 7, 1609), (466, 6, 1545), (466, 5, 1481), (466, 4, 1417), (466, 3, 1353), (466, 2, 1289), (466, 1, 1225), (466, 0, 1161), (385, 15, 1100), (385, 14, 1036), (385, 9, 975), (385, 8, 909), (385, 7, 845), (385, 6, 782), (385, 5, 718), (385, 4, 654), (385, 3, 590), (385, 2, 525), (385, 0, 466), (10, 3, 324), (324, 0, 199), (10, 2, 258), (258, 0, 199), (10, 1, 199), (199, 0, 70), (10, 0, 70), (70, 0, 145)]
def lbG1 : List (Nat × Nat × Nat) := [(2770, 23, 4937), (2770, 22, 4873), (2770, 21, 4809), (2770, 20, 4745), (2770, 19, 4681), (2770, 18, 4617), (2770, 17, 4553), (2770, 16, 4489), (2770, 15, 4425), (2770, 14, 4361), (2770, 13, 4297), (2770, 12, 4233), (2770, 11, 4169), (2770, 10, 4105), (2770, 9, 4041), (2770, 8, 3977), (2770, 7, 3913), (2770, 6, 3849), (2770, 5, 3785), (2770, 4, 3721), (2770, 3, 3657), (2770, 2, 3593), (2770, 1, 3529), (2770, 0, 3465), (2689, 15, 3404), (2689, 14, 3340), (2689, 9, 3279), (2689, 8, 3213), (2689, 7, 3149), (2689, 6, 3086), (2689, 5, 3022), (2689, 4, 2958), (2689, 3, 2894), (2689, 2, 2829), (2689, 0, 2770), (10, 4, 385), (466, 23, 2633), (466, 22, 2569), (466, 21, 2505), (466, 20, 2441), (466, 19, 2377), (466, 18, 2313), (466, 17, 2249), (466, 16, 2185), (466, 15, 2121), (466, 14, 2057), (466, 13, 1993), (466, 12, 1929), (466, 11, 1865), (466, 10, 1801), (466, 9, 1737), (466, 8, 1673), (466, 7, 1609), (466, 6, 1545), (466, 5, 1481), (466, 4, 1417), (466, 3, 1353), (466, 2, 1289), (466, 1, 1225), (466, 0, 1161), (385, 15, 1100), (385, 14, 1036), (385, 9, 975), (385, 8, 909), (385, 7, 845), (385, 6, 782), (385, 5, 718), (385, 4, 654), (385, 3, 590), (385, 2, 525), (385, 0, 466), (10, 3, 324), (324, 0, 199), (10, 2, 258), (258, 0, 199), (10, 1, 199), (199, 0, 70), (10, 0, 70), (70, 0, 145)]
def lbI1 : List (Nat × Nat × Nat × Int32) := [(3086, 0, 64, -4), (3022, 0, 64, -4), (3279, 0, 7, 0), (2958, 0, 64, 0), (2894, 0, 64, 0), (2689, 13, 14, 0), (2689, 12, 13, 0), (2689, 11, 12, 0), (2689, 10, 11, 0), (3213, 0, 8, 0), (3149, 0, 8, 0), (2829, 0, 8, 2), (2689, 1, 2, 0), (782, 0, 64, -4), (718, 0, 64, -4), (975, 0, 7, 0), (654, 0, 64, 0), (590, 0, 64, 0), (385, 13, 14, 0), (385, 12, 13, 0), (385, 11, 12, 0), (385, 10, 11, 0), (909, 0, 8, 0), (845, 0, 8, 0), (525, 0, 8, 2), (385, 1, 2, 0)]
set_option maxRecDepth 20000 in
theorem sLi_init_B {sh : List Nat} {n : Nat} {xs : Nat → Int32} {K : Mm → Prop} (hs : sh.length = 43) (h : ∀ sh : List Nat, sh.length = 78 → K (mem sh n xs lbI1 lbG1)) : CV mLi_init [.ref 2689] (mem sh n xs lbI0 lbG0) K := by
  refine call_of rfl (Nat.le_of_ble_eq_true rfl) rfl ?_
  refine vLi_init_0 ?_
  refine vLi_init_4 (b' := (34, 599)) (by decide) rfl ?_
  rw [mem_new hs 18 2770 rfl rfl (by decide +kernel) (by decide +kernel)]
  replace hs := ap_len hs 18
  generalize sh ++ [18] = sh at hs ⊢
  refine vLi_init_13 (b' := (33, 591)) (by decide) rfl ?_
  rw [mem_new hs 13 2829 rfl rfl (by decide +kernel) (by decide +kernel)]
  replace hs := ap_len hs 13
  generalize sh ++ [13] = sh at hs ⊢
  refine vLi_init_21 (b' := (32, 527)) (by decide) rfl ?_
  rw [mem_new hs 14 2894 rfl rfl (by decide +kernel) (by decide +kernel)]
  replace hs := ap_len hs 14
  generalize sh ++ [14] = sh at hs ⊢
  refine vLi_init_29 (b' := (31, 463)) (by decide) rfl ?_
  rw [mem_new hs 14 2958 rfl rfl (by decide +kernel) (by decide +kernel)]
  replace hs := ap_len hs 14
  generalize sh ++ [14] = sh at hs ⊢
  refine vLi_init_37 (b' := (30, 399)) (by decide) rfl ?_
  rw [mem_new hs 14 3022 rfl rfl (by decide +kernel) (by decide +kernel)]
  replace hs := ap_len hs 14
  generalize sh ++ [14] = sh at hs ⊢
  refine vLi_init_45 (b' := (29, 335)) (by decide) rfl ?_
  rw [mem_new hs 14 3086 rfl rfl (by decide +kernel) (by decide +kernel)]
  replace hs := ap_len hs 14
  generalize sh ++ [14] = sh at hs ⊢
  refine vLi_init_53 (b' := (28, 327)) (by decide) rfl ?_
  rw [mem_new hs 13 3149 rfl rfl (by decide +kernel) (by decide +kernel)]
  replace hs := ap_len hs 13
  generalize sh ++ [13] = sh at hs ⊢
  refine vLi_init_61 (b' := (27, 319)) (by decide) rfl ?_
  rw [mem_new hs 13 3213 rfl rfl (by decide +kernel) (by decide +kernel)]
  replace hs := ap_len hs 13
  generalize sh ++ [13] = sh at hs ⊢
  refine vLi_init_69 (b' := (26, 312)) (by decide) rfl ?_
  rw [mem_new hs 15 3279 rfl rfl (by decide +kernel) (by decide +kernel)]
  replace hs := ap_len hs 15
  generalize sh ++ [15] = sh at hs ⊢
  refine vLi_init_77 (b' := (25, 288)) (by decide) rfl ?_
  rw [mem_new hs 12 3340 rfl rfl (by decide +kernel) (by decide +kernel)]
  replace hs := ap_len hs 12
  generalize sh ++ [12] = sh at hs ⊢
  refine vLi_init_85 (b' := (24, 264)) (by decide) rfl ?_
  rw [mem_new hs 12 3404 rfl rfl (by decide +kernel) (by decide +kernel)]
  replace hs := ap_len hs 12
  generalize sh ++ [12] = sh at hs ⊢
  refine vLi_init_93 ?_
  refine vLi_init_95 (b' := (23, 253)) (by decide) rfl (r1 := 2770) (mem_gr (by decide +kernel)) ⟨fun q => absurd q (by decide), fun _ => ?_⟩
  rw [mem_len hs 9 3465 rfl, mem_nwl hs 9 3465 rfl rfl (by decide +kernel) (by decide +kernel)]
  replace hs := ap_len hs 9
  generalize sh ++ [9] = sh at hs ⊢
  refine sWo_init ?_
  refine vLi_init_113 rfl rfl ⟨vin (i := 0) (n := 24) (by decide) (by decide), ?_⟩
  rw [mem_sr]
  show X mLi_init 95 [(0, .ref 2689), (1, .int 1)] [] (mem sh n xs _ ((2770, 0, 3465) :: _)) _ _
  refine vLi_init_95 (b' := (22, 242)) (by decide) rfl (r1 := 2770) (mem_gr (by decide +kernel)) ⟨fun q => absurd q (by decide), fun _ => ?_⟩
  rw [mem_len hs 9 3529 rfl, mem_nwl hs 9 3529 rfl rfl (by decide +kernel) (by decide +kernel)]
  replace hs := ap_len hs 9
  generalize sh ++ [9] = sh at hs ⊢
  refine sWo_init ?_
  refine vLi_init_113 rfl rfl ⟨vin (i := 1) (n := 24) (by decide) (by decide), ?_⟩
  rw [mem_sr]
  show X mLi_init 95 [(0, .ref 2689), (1, .int 2)] [] (mem sh n xs _ ((2770, 1, 3529) :: _)) _ _
  refine vLi_init_95 (b' := (21, 231)) (by decide) rfl (r1 := 2770) (mem_gr (by decide +kernel)) ⟨fun q => absurd q (by decide), fun _ => ?_⟩
  rw [mem_len hs 9 3593 rfl, mem_nwl hs 9 3593 rfl rfl (by decide +kernel) (by decide +kernel)]
  replace hs := ap_len hs 9
  generalize sh ++ [9] = sh at hs ⊢
  refine sWo_init ?_
  refine vLi_init_113 rfl rfl ⟨vin (i := 2) (n := 24) (by decide) (by decide), ?_⟩
  rw [mem_sr]
  show X mLi_init 95 [(0, .ref 2689), (1, .int 3)] [] (mem sh n xs _ ((2770, 2, 3593) :: _)) _ _
  refine vLi_init_95 (b' := (20, 220)) (by decide) rfl (r1 := 2770) (mem_gr (by decide +kernel)) ⟨fun q => absurd q (by decide), fun _ => ?_⟩
  rw [mem_len hs 9 3657 rfl, mem_nwl hs 9 3657 rfl rfl (by decide +kernel) (by decide +kernel)]
  replace hs := ap_len hs 9
  generalize sh ++ [9] = sh at hs ⊢
  refine sWo_init ?_
  refine vLi_init_113 rfl rfl ⟨vin (i := 3) (n := 24) (by decide) (by decide), ?_⟩
  rw [mem_sr]
  show X mLi_init 95 [(0, .ref 2689), (1, .int 4)] [] (mem sh n xs _ ((2770, 3, 3657) :: _)) _ _
  refine vLi_init_95 (b' := (19, 209)) (by decide) rfl (r1 := 2770) (mem_gr (by decide +kernel)) ⟨fun q => absurd q (by decide), fun _ => ?_⟩
  rw [mem_len hs 9 3721 rfl, mem_nwl hs 9 3721 rfl rfl (by decide +kernel) (by decide +kernel)]
  replace hs := ap_len hs 9
  generalize sh ++ [9] = sh at hs ⊢
  refine sWo_init ?_
  refine vLi_init_113 rfl rfl ⟨vin (i := 4) (n := 24) (by decide) (by decide), ?_⟩
  rw [mem_sr]
  show X mLi_init 95 [(0, .ref 2689), (1, .int 5)] [] (mem sh n xs _ ((2770, 4, 3721) :: _)) _ _
  refine vLi_init_95 (b' := (18, 198)) (by decide) rfl (r1 := 2770) (mem_gr (by decide +kernel)) ⟨fun q => absurd q (by decide), fun _ => ?_⟩
  rw [mem_len hs 9 3785 rfl, mem_nwl hs 9 3785 rfl rfl (by decide +kernel) (by decide +kernel)]
  replace hs := ap_len hs 9
  generalize sh ++ [9] = sh at hs ⊢
  refine sWo_init ?_
  refine vLi_init_113 rfl rfl ⟨vin (i := 5) (n := 24) (by decide) (by decide), ?_⟩
  rw [mem_sr]
  show X mLi_init 95 [(0, .ref 2689), (1, .int 6)] [] (mem sh n xs _ ((2770, 5, 3785) :: _)) _ _
  refine vLi_init_95 (b' := (17, 187)) (by decide) rfl (r1 := 2770) (mem_gr (by decide +kernel)) ⟨fun q => absurd q (by decide), fun _ => ?_⟩
  rw [mem_len hs 9 3849 rfl, mem_nwl hs 9 3849 rfl rfl (by decide +kernel) (by decide +kernel)]
  replace hs := ap_len hs 9
  generalize sh ++ [9] = sh at hs ⊢
  refine sWo_init ?_
  refine vLi_init_113 rfl rfl ⟨vin (i := 6) (n := 24) (by decide) (by decide), ?_⟩
  rw [mem_sr]
  show X mLi_init 95 [(0, .ref 2689), (1, .int 7)] [] (mem sh n xs _ ((2770, 6, 3849) :: _)) _ _
  refine vLi_init_95 (b' := (16, 176)) (by decide) rfl (r1 := 2770) (mem_gr (by decide +kernel)) ⟨fun q => absurd q (by decide), fun _ => ?_⟩
  rw [mem_len hs 9 3913 rfl, mem_nwl hs 9 3913 rfl rfl (by decide +kernel) (by decide +kernel)]
  replace hs := ap_len hs 9
  generalize sh ++ [9] = sh at hs ⊢
  refine sWo_init ?_
  refine vLi_init_113 rfl rfl ⟨vin (i := 7) (n := 24) (by decide) (by decide), ?_⟩
  rw [mem_sr]
  show X mLi_init 95 [(0, .ref 2689), (1, .int 8)] [] (mem sh n xs _ ((2770, 7, 3913) :: _)) _ _
  refine vLi_init_95 (b' := (15, 165)) (by decide) rfl (r1 := 2770) (mem_gr (by decide +kernel)) ⟨fun q => absurd q (by decide), fun _ => ?_⟩
  rw [mem_len hs 9 3977 rfl, mem_nwl hs 9 3977 rfl rfl (by decide +kernel) (by decide +kernel)]
  replace hs := ap_len hs 9
  generalize sh ++ [9] = sh at hs ⊢
  refine sWo_init ?_
  refine vLi_init_113 rfl rfl ⟨vin (i := 8) (n := 24) (by decide) (by decide), ?_⟩
  rw [mem_sr]
  show X mLi_init 95 [(0, .ref 2689), (1, .int 9)] [] (mem sh n xs _ ((2770, 8, 3977) :: _)) _ _
  refine vLi_init_95 (b' := (14, 154)) (by decide) rfl (r1 := 2770) (mem_gr (by decide +kernel)) ⟨fun q => absurd q (by decide), fun _ => ?_⟩
  rw [mem_len hs 9 4041 rfl, mem_nwl hs 9 4041 rfl rfl (by decide +kernel) (by decide +kernel)]
  replace hs := ap_len hs 9
  generalize sh ++ [9] = sh at hs ⊢
  refine sWo_init ?_
  refine vLi_init_113 rfl rfl ⟨vin (i := 9) (n := 24) (by decide) (by decide), ?_⟩
  rw [mem_sr]
  show X mLi_init 95 [(0, .ref 2689), (1, .int 10)] [] (mem sh n xs _ ((2770, 9, 4041) :: _)) _ _
  refine vLi_init_95 (b' := (13, 143)) (by decide) rfl (r1 := 2770) (mem_gr (by decide +kernel)) ⟨fun q => absurd q (by decide), fun _ => ?_⟩
  rw [mem_len hs 9 4105 rfl, mem_nwl hs 9 4105 rfl rfl (by decide +kernel) (by decide +kernel)]
  replace hs := ap_len hs 9
  generalize sh ++ [9] = sh at hs ⊢
  refine sWo_init ?_
  refine vLi_init_113 rfl rfl ⟨vin (i := 10) (n := 24) (by decide) (by decide), ?_⟩
  rw [mem_sr]
  show X mLi_init 95 [(0, .ref 2689), (1, .int 11)] [] (mem sh n xs _ ((2770, 10, 4105) :: _)) _ _
  refine vLi_init_95 (b' := (12, 132)) (by decide) rfl (r1 := 2770) (mem_gr (by decide +kernel)) ⟨fun q => absurd q (by decide), fun _ => ?_⟩
  rw [mem_len hs 9 4169 rfl, mem_nwl hs 9 4169 rfl rfl (by decide +kernel) (by decide +kernel)]
  replace hs := ap_len hs 9
  generalize sh ++ [9] = sh at hs ⊢
  refine sWo_init ?_
  refine vLi_init_113 rfl rfl ⟨vin (i := 11) (n := 24) (by decide) (by decide), ?_⟩
  rw [mem_sr]
  show X mLi_init 95 [(0, .ref 2689), (1, .int 12)] [] (mem sh n xs _ ((2770, 11, 4169) :: _)) _ _
  refine vLi_init_95 (b' := (11, 121)) (by decide) rfl (r1 := 2770) (mem_gr (by decide +kernel)) ⟨fun q => absurd q (by decide), fun _ => ?_⟩
  rw [mem_len hs 9 4233 rfl, mem_nwl hs 9 4233 rfl rfl (by decide +kernel) (by decide +kernel)]
  replace hs := ap_len hs 9
  generalize sh ++ [9] = sh at hs ⊢
  refine sWo_init ?_
  refine vLi_init_113 rfl rfl ⟨vin (i := 12) (n := 24) (by decide) (by decide), ?_⟩
  rw [mem_sr]
  show X mLi_init 95 [(0, .ref 2689), (1, .int 13)] [] (mem sh n xs _ ((2770, 12, 4233) :: _)) _ _
  refine vLi_init_95 (b' := (10, 110)) (by decide) rfl (r1 := 2770) (mem_gr (by decide +kernel)) ⟨fun q => absurd q (by decide), fun _ => ?_⟩
  rw [mem_len hs 9 4297 rfl, mem_nwl hs 9 4297 rfl rfl (by decide +kernel) (by decide +kernel)]
  replace hs := ap_len hs 9
  generalize sh ++ [9] = sh at hs ⊢
  refine sWo_init ?_
  refine vLi_init_113 rfl rfl ⟨vin (i := 13) (n := 24) (by decide) (by decide), ?_⟩
  rw [mem_sr]
  show X mLi_init 95 [(0, .ref 2689), (1, .int 14)] [] (mem sh n xs _ ((2770, 13, 4297) :: _)) _ _
  refine vLi_init_95 (b' := (9, 99)) (by decide) rfl (r1 := 2770) (mem_gr (by decide +kernel)) ⟨fun q => absurd q (by decide), fun _ => ?_⟩
  rw [mem_len hs 9 4361 rfl, mem_nwl hs 9 4361 rfl rfl (by decide +kernel) (by decide +kernel)]
  replace hs := ap_len hs 9
  generalize sh ++ [9] = sh at hs ⊢
  refine sWo_init ?_
  refine vLi_init_113 rfl rfl ⟨vin (i := 14) (n := 24) (by decide) (by decide), ?_⟩
  rw [mem_sr]
  show X mLi_init 95 [(0, .ref 2689), (1, .int 15)] [] (mem sh n xs _ ((2770, 14, 4361) :: _)) _ _
  refine vLi_init_95 (b' := (8, 88)) (by decide) rfl (r1 := 2770) (mem_gr (by decide +kernel)) ⟨fun q => absurd q (by decide), fun _ => ?_⟩
  rw [mem_len hs 9 4425 rfl, mem_nwl hs 9 4425 rfl rfl (by decide +kernel) (by decide +kernel)]
  replace hs := ap_len hs 9
  generalize sh ++ [9] = sh at hs ⊢
  refine sWo_init ?_
  refine vLi_init_113 rfl rfl ⟨vin (i := 15) (n := 24) (by decide) (by decide), ?_⟩
  rw [mem_sr]
  show X mLi_init 95 [(0, .ref 2689), (1, .int 16)] [] (mem sh n xs _ ((2770, 15, 4425) :: _)) _ _
  refine vLi_init_95 (b' := (7, 77)) (by decide) rfl (r1 := 2770) (mem_gr (by decide +kernel)) ⟨fun q => absurd q (by decide), fun _ => ?_⟩
  rw [mem_len hs 9 4489 rfl, mem_nwl hs 9 4489 rfl rfl (by decide +kernel) (by decide +kernel)]
  replace hs := ap_len hs 9
  generalize sh ++ [9] = sh at hs ⊢
  refine sWo_init ?_
  refine vLi_init_113 rfl rfl ⟨vin (i := 16) (n := 24) (by decide) (by decide), ?_⟩
  rw [mem_sr]
  show X mLi_init 95 [(0, .ref 2689), (1, .int 17)] [] (mem sh n xs _ ((2770, 16, 4489) :: _)) _ _
  refine vLi_init_95 (b' := (6, 66)) (by decide) rfl (r1 := 2770) (mem_gr (by decide +kernel)) ⟨fun q => absurd q (by decide), fun _ => ?_⟩
  rw [mem_len hs 9 4553 rfl, mem_nwl hs 9 4553 rfl rfl (by decide +kernel) (by decide +kernel)]
  replace hs := ap_len hs 9
  generalize sh ++ [9] = sh at hs ⊢
  refine sWo_init ?_
  refine vLi_init_113 rfl rfl ⟨vin (i := 17) (n := 24) (by decide) (by decide), ?_⟩
  rw [mem_sr]
  show X mLi_init 95 [(0, .ref 2689), (1, .int 18)] [] (mem sh n xs _ ((2770, 17, 4553) :: _)) _ _
  refine vLi_init_95 (b' := (5, 55)) (by decide) rfl (r1 := 2770) (mem_gr (by decide +kernel)) ⟨fun q => absurd q (by decide), fun _ => ?_⟩
  rw [mem_len hs 9 4617 rfl, mem_nwl hs 9 4617 rfl rfl (by decide +kernel) (by decide +kernel)]
  replace hs := ap_len hs 9
  generalize sh ++ [9] = sh at hs ⊢
  refine sWo_init ?_
  refine vLi_init_113 rfl rfl ⟨vin (i := 18) (n := 24) (by decide) (by decide), ?_⟩
  rw [mem_sr]
  show X mLi_init 95 [(0, .ref 2689), (1, .int 19)] [] (mem sh n xs _ ((2770, 18, 4617) :: _)) _ _
  refine vLi_init_95 (b' := (4, 44)) (by decide) rfl (r1 := 2770) (mem_gr (by decide +kernel)) ⟨fun q => absurd q (by decide), fun _ => ?_⟩
  rw [mem_len hs 9 4681 rfl, mem_nwl hs 9 4681 rfl rfl (by decide +kernel) (by decide +kernel)]
  replace hs := ap_len hs 9
  generalize sh ++ [9] = sh at hs ⊢
  refine sWo_init ?_
  refine vLi_init_113 rfl rfl ⟨vin (i := 19) (n := 24) (by decide) (by decide), ?_⟩
  rw [mem_sr]
  show X mLi_init 95 [(0, .ref 2689), (1, .int 20)] [] (mem sh n xs _ ((2770, 19, 4681) :: _)) _ _
  refine vLi_init_95 (b' := (3, 33)) (by decide) rfl (r1 := 2770) (mem_gr (by decide +kernel)) ⟨fun q => absurd q (by decide), fun _ => ?_⟩
  rw [mem_len hs 9 4745 rfl, mem_nwl hs 9 4745 rfl rfl (by decide +kernel) (by decide +kernel)]
  replace hs := ap_len hs 9
  generalize sh ++ [9] = sh at hs ⊢
  refine sWo_init ?_
  refine vLi_init_113 rfl rfl ⟨vin (i := 20) (n := 24) (by decide) (by decide), ?_⟩
  rw [mem_sr]
  show X mLi_init 95 [(0, .ref 2689), (1, .int 21)] [] (mem sh n xs _ ((2770, 20, 4745) :: _)) _ _
  refine vLi_init_95 (b' := (2, 22)) (by decide) rfl (r1 := 2770) (mem_gr (by decide +kernel)) ⟨fun q => absurd q (by decide), fun _ => ?_⟩
  rw [mem_len hs 9 4809 rfl, mem_nwl hs 9 4809 rfl rfl (by decide +kernel) (by decide +kernel)]
  replace hs := ap_len hs 9
  generalize sh ++ [9] = sh at hs ⊢
  refine sWo_init ?_
  refine vLi_init_113 rfl rfl ⟨vin (i := 21) (n := 24) (by decide) (by decide), ?_⟩
  rw [mem_sr]
  show X mLi_init 95 [(0, .ref 2689), (1, .int 22)] [] (mem sh n xs _ ((2770, 21, 4809) :: _)) _ _
  refine vLi_init_95 (b' := (1, 11)) (by decide) rfl (r1 := 2770) (mem_gr (by decide +kernel)) ⟨fun q => absurd q (by decide), fun _ => ?_⟩
  rw [mem_len hs 9 4873 rfl, mem_nwl hs 9 4873 rfl rfl (by decide +kernel) (by decide +kernel)]
  replace hs := ap_len hs 9
  generalize sh ++ [9] = sh at hs ⊢
  refine sWo_init ?_
  refine vLi_init_113 rfl rfl ⟨vin (i := 22) (n := 24) (by decide) (by decide), ?_⟩
  rw [mem_sr]
  show X mLi_init 95 [(0, .ref 2689), (1, .int 23)] [] (mem sh n xs _ ((2770, 22, 4873) :: _)) _ _
  refine vLi_init_95 (b' := (0, 0)) (by decide) rfl (r1 := 2770) (mem_gr (by decide +kernel)) ⟨fun q => absurd q (by decide), fun _ => ?_⟩
  rw [mem_len hs 9 4937 rfl, mem_nwl hs 9 4937 rfl rfl (by decide +kernel) (by decide +kernel)]
  replace hs := ap_len hs 9
  generalize sh ++ [9] = sh at hs ⊢
  refine sWo_init ?_
  refine vLi_init_113 rfl rfl ⟨vin (i := 23) (n := 24) (by decide) (by decide), ?_⟩
  rw [mem_sr]
  show X mLi_init 95 [(0, .ref 2689), (1, .int 24)] [] (mem sh n xs _ ((2770, 23, 4937) :: _)) _ _
  refine vLi_end95 rfl (by decide) ?_
  have hl := mem_lr (sh := sh) (n := n) (xs := xs) (I := lbI0) (G := lbG1) (r := 2689) rfl (by decide +kernel) (by decide +kernel)
  refine sLi_clear hl ?_
  rw [mem_si rfl, mem_fl rfl]
  refine vLi_init_124 rfl ?_
  refine sLi_settle0 hl ((mem_gi rfl).trans (by decide +kernel)) ?_
  unfold st0 al0 so0 fr0 sw0
  rw [mem_fl rfl, mem_fl rfl, mem_si rfl, mem_si rfl, mem_si rfl, mem_si rfl, mem_fl rfl, mem_fl rfl, mem_fl rfl, mem_fl rfl, mem_fl rfl]
  refine vLi_init_128 ?_
  exact h sh hs
def lcI : List (Nat × Nat × Nat × Int32) := [(5893, 1, 2, -4), (5765, 1, 2, -4), (5637, 1, 2, -4), (5509, 1, 2, -4), (10, 9, 10, 255), (5123, 6, 7, 1), (5123, 5, 6, -4), (5123, 4, 5, -4), (5123, 3, 4, 0), (5123, 2, 3, 0), (5123, 1, 2, 2), (5123, 0, 1, 31), (5059, 6, 7, 1), (5059, 5, 6, -4), (5059, 4, 5, -4), (5059, 3, 4, 0), (5059, 2, 3, 0), (5059, 1, 2, 2), (5059, 0, 1, 31), (4995, 6, 7, 1), (4995, 5, 6, -4), (4995, 4, 5, -4), (4995, 3, 4, 0), (4995, 2, 3, 0), (4995, 1, 2, 2), (4995, 0, 1, 31), (3086, 0, 64, -4), (3022, 0, 64, -4), (3279, 0, 7, 0), (2958, 0, 64, 0), (2894, 0, 64, 0), (2689, 13, 14, 0), (2689, 12, 13, 0), (2689, 11, 12, 0), (2689, 10, 11, 0), (3213, 0, 8, 0), (3149, 0, 8, 0), (2829, 0, 8, 2), (2689, 1, 2, 0), (782, 0, 64, -4), (718, 0, 64, -4), (975, 0, 7, 0), (654, 0, 64, 0), (590, 0, 64, 0), (385, 13, 14, 0), (385, 12, 13, 0), (385, 11, 12, 0), (385, 10, 11, 0), (909, 0, 8, 0), (845, 0, 8, 0), (525, 0, 8, 2), (385, 1, 2, 0)]
def lcG : List (Nat × Nat × Nat) := [(5459, 3, 5893), (5893, 0, 5972), (5459, 2, 5765), (5765, 0, 5844), (5459, 1, 5637), (5637, 0, 5716), (5459, 0, 5509), (5509, 0, 5588), (10, 13, 5459), (10, 12, 5312), (5312, 0, 5192), (5312, 1, 5392), (10, 11, 5192), (5192, 1, 4995), (5192, 0, 385), (5192, 3, 5261), (10, 8, 5123), (10, 7, 5059), (10, 6, 4995), (10, 5, 2689), (2770, 23, 4937), (2770, 22, 4873), (2770, 21, 4809), (2770, 20, 4745), (2770, 19, 4681), (2770, 18, 4617), (2770, 17, 4553), (2770, 16, 4489), (2770, 15, 4425), (2770, 14, 4361), (2770, 13, 4297), (2770, 12, 4233), (2770, 11, 4169), (2770, 10, 4105), (2770, 9, 4041), (2770, 8, 3977), (2770, 7, 3913), (2770, 6, 3849), (2770, 5, 3785), (2770, 4, 3721), (2770, 3, 3657), (2770, 2, 3593), (2770, 1, 3529), (2770, 0, 3465), (2689, 15, 3404), (2689, 14, 3340), (2689, 9, 3279), (2689, 8, 3213), (2689, 7, 3149), (2689, 6, 3086), (2689, 5, 3022), (2689, 4, 2958), (2689, 3, 2894), (2689, 2, 2829), (2689, 0, 2770), (10, 4, 385), (466, 23, 2633), (466, 22, 2569), (466, 21, 2505), (466, 20, 2441), (466, 19, 2377), (466, 18, 2313), (466, 17, 2249), (466, 16, 2185), (466, 15, 2121), (466, 14, 2057), (466, 13, 1993), (466, 12, 1929), (466, 11, 1865), (466, 10, 1801), (466, 9, 1737), (466, 8, 1673), (466, 7, 1609), (466, 6, 1545), (466, 5, 1481), (466, 4, 1417), (466, 3, 1353), (466, 2, 1289), (466, 1, 1225), (466, 0, 1161), (385, 15, 1100), (385, 14, 1036), (385, 9, 975), (385, 8, 909), (385, 7, 845), (385, 6, 782), (385, 5, 718), (385, 4, 654), (385, 3, 590), (385, 2, 525), (385, 0, 466), (10, 3, 324), (324, 0, 199), (10, 2, 258), (258, 0, 199), (10, 1, 199), (199, 0, 70), (10, 0, 70), (70, 0, 145)]
set_option maxRecDepth 20000 in
theorem sC_init {sh : List Nat} {n : Nat} {xs : Nat → Int32} {K : Mm → Prop} (hs : sh.length = 1) (h : ∀ sh : List Nat, sh.length = 94 → K (mem sh n xs lcI lcG)) : CV mC_init [.ref 10] (mem sh n xs [] []) K := by
  refine call_of rfl (Nat.le_of_ble_eq_true rfl) rfl ?_
  refine vC_init_0 ?_
  refine vC_init_4 (b' := (91, 2529)) (by decide) ?_
  rw [mem_len hs 6 70 rfl, mem_nwl hs 6 70 rfl rfl (by decide +kernel) (by decide +kernel)]
  replace hs := ap_len hs 6
  generalize sh ++ [6] = sh at hs ⊢
  refine sTa_init rfl ?_
  rw [mem_new hs 17 145 rfl rfl (by decide +kernel) (by decide +kernel)]
  replace hs := ap_len hs 17
  generalize sh ++ [17] = sh at hs ⊢
  refine vC_init_12 rfl rfl ?_
  rw [mem_sr]
  refine vC_init_15 (b' := (90, 2522)) (by decide) rfl ?_
  rw [mem_len hs 7 199 rfl, mem_nwl hs 7 199 rfl rfl (by decide +kernel) (by decide +kernel)]
  replace hs := ap_len hs 7
  generalize sh ++ [7] = sh at hs ⊢
  refine ⟨70, mem_gr (by decide +kernel), ?_⟩
  refine sTo_init rfl rfl ?_
  rw [mem_sr]
  refine vC_init_27 rfl rfl ?_
  rw [mem_sr]
  refine vC_init_30 (b' := (89, 2520)) (by decide) rfl ?_
  rw [mem_len hs 2 258 rfl, mem_nwl hs 2 258 rfl rfl (by decide +kernel) (by decide +kernel)]
  replace hs := ap_len hs 2
  generalize sh ++ [2] = sh at hs ⊢
  refine ⟨199, mem_gr (by decide +kernel), ?_⟩
  refine sLr_init rfl rfl ?_
  rw [mem_sr]
  refine vC_init_42 rfl rfl ?_
  rw [mem_sr]
  refine vC_init_45 (b' := (88, 2519)) (by decide) rfl ?_
  rw [mem_len hs 4 324 rfl, mem_nwl hs 4 324 rfl rfl (by decide +kernel) (by decide +kernel)]
  replace hs := ap_len hs 4
  generalize sh ++ [4] = sh at hs ⊢
  refine ⟨199, mem_gr (by decide +kernel), ?_⟩
  refine sRr_init rfl rfl ?_
  rw [mem_sr]
  refine vC_init_57 rfl rfl ?_
  rw [mem_sr]
  refine vC_init_60 (b' := (52, 1880)) (by decide) ?_
  rw [mem_len hs 1 385 rfl, mem_nwl hs 1 385 rfl rfl (by decide +kernel) (by decide +kernel)]
  replace hs := ap_len hs 1
  generalize sh ++ [1] = sh at hs ⊢
  refine sLi_init_A hs (fun sh hs => ?_)
  refine vC_init_68 rfl rfl ?_
  rw [mem_sr]
  refine vC_init_71 (b' := (16, 1241)) (by decide) ?_
  rw [mem_len hs 1 2689 rfl, mem_nwl hs 1 2689 rfl rfl (by decide +kernel) (by decide +kernel)]
  replace hs := ap_len hs 1
  generalize sh ++ [1] = sh at hs ⊢
  refine sLi_init_B hs (fun sh hs => ?_)
  refine vC_init_79 rfl rfl ?_
  rw [mem_sr]
  refine vC_init_82 (b' := (15, 1234)) (by decide) ?_
  rw [mem_len hs 3 4995 rfl, mem_nwl hs 3 4995 rfl rfl (by decide +kernel) (by decide +kernel)]
  replace hs := ap_len hs 3
  generalize sh ++ [3] = sh at hs ⊢
  refine sRu_init rfl ?_
  rw [mem_si rfl]
  rw [mem_si rfl]
  rw [mem_si rfl]
  rw [mem_si rfl]
  rw [mem_si rfl]
  rw [mem_si rfl]
  rw [mem_si rfl]
  refine vC_init_90 rfl rfl ?_
  rw [mem_sr]
  refine vC_init_93 (b' := (14, 1227)) (by decide) ?_
  rw [mem_len hs 3 5059 rfl, mem_nwl hs 3 5059 rfl rfl (by decide +kernel) (by decide +kernel)]
  replace hs := ap_len hs 3
  generalize sh ++ [3] = sh at hs ⊢
  refine sRu_init rfl ?_
  rw [mem_si rfl]
  rw [mem_si rfl]
  rw [mem_si rfl]
  rw [mem_si rfl]
  rw [mem_si rfl]
  rw [mem_si rfl]
  rw [mem_si rfl]
  refine vC_init_101 rfl rfl ?_
  rw [mem_sr]
  refine vC_init_104 (b' := (13, 1220)) (by decide) ?_
  rw [mem_len hs 3 5123 rfl, mem_nwl hs 3 5123 rfl rfl (by decide +kernel) (by decide +kernel)]
  replace hs := ap_len hs 3
  generalize sh ++ [3] = sh at hs ⊢
  refine sRu_init rfl ?_
  rw [mem_si rfl]
  rw [mem_si rfl]
  rw [mem_si rfl]
  rw [mem_si rfl]
  rw [mem_si rfl]
  rw [mem_si rfl]
  rw [mem_si rfl]
  refine vC_init_112 rfl rfl ?_
  rw [mem_sr]
  refine vC_init_115 (b' := (11, 1202)) (by decide) rfl ?_
  rw [mem_si rfl]
  rw [mem_len hs 8 5192 rfl, mem_nwl hs 8 5192 rfl rfl (by decide +kernel) (by decide +kernel)]
  replace hs := ap_len hs 8
  generalize sh ++ [8] = sh at hs ⊢
  refine ⟨385, mem_gr (by decide +kernel), 4995, mem_gr (by decide +kernel), ?_⟩
  refine sWe_init rfl rfl rfl ?_
  rw [mem_new hs 13 5261 rfl rfl (by decide +kernel) (by decide +kernel)]
  replace hs := ap_len hs 13
  generalize sh ++ [13] = sh at hs ⊢
  rw [mem_sr]
  rw [mem_sr]
  refine vC_init_138 rfl rfl ?_
  rw [mem_sr]
  refine vC_init_141 (b' := (9, 176)) (by decide) rfl ?_
  rw [mem_len hs 0 5312 rfl, mem_nwl hs 0 5312 rfl rfl (by decide +kernel) (by decide +kernel)]
  replace hs := ap_len hs 0
  generalize sh ++ [0] = sh at hs ⊢
  refine ⟨5192, mem_gr (by decide +kernel), ?_⟩
  refine sFi_init rfl rfl ?_
  rw [mem_new hs 16 5392 rfl rfl (by decide +kernel) (by decide +kernel)]
  replace hs := ap_len hs 16
  generalize sh ++ [16] = sh at hs ⊢
  rw [mem_sr]
  refine vC_init_153 rfl rfl ?_
  rw [mem_sr]
  refine vC_init_156 (b' := (8, 172)) (by decide) rfl ?_
  rw [mem_new hs 19 5459 rfl rfl (by decide +kernel) (by decide +kernel)]
  replace hs := ap_len hs 19
  generalize sh ++ [19] = sh at hs ⊢
  refine vC_init_164 ?_
  refine vC_init_166 (b' := (6, 129)) (by decide) rfl (r1 := 5459) (mem_gr (by decide +kernel)) ⟨fun q => absurd q (by decide), fun _ => ?_⟩
  rw [mem_len hs 5 5509 rfl, mem_nwl hs 5 5509 rfl rfl (by decide +kernel) (by decide +kernel)]
  replace hs := ap_len hs 5
  generalize sh ++ [5] = sh at hs ⊢
  refine sSh_init rfl ?_
  rw [mem_new hs 20 5588 rfl rfl (by decide +kernel) (by decide +kernel)]
  replace hs := ap_len hs 20
  generalize sh ++ [20] = sh at hs ⊢
  rw [mem_si rfl]
  refine vC_init_183 rfl rfl ⟨vin (i := 0) (n := 4) (by decide) (by decide), ?_⟩
  rw [mem_sr]
  show X mC_init 166 [(0, .ref 10), (1, .int 1)] [] (mem sh n xs _ ((5459, 0, 5509) :: _)) _ _
  refine vC_init_166 (b' := (4, 86)) (by decide) rfl (r1 := 5459) (mem_gr (by decide +kernel)) ⟨fun q => absurd q (by decide), fun _ => ?_⟩
  rw [mem_len hs 5 5637 rfl, mem_nwl hs 5 5637 rfl rfl (by decide +kernel) (by decide +kernel)]
  replace hs := ap_len hs 5
  generalize sh ++ [5] = sh at hs ⊢
  refine sSh_init rfl ?_
  rw [mem_new hs 20 5716 rfl rfl (by decide +kernel) (by decide +kernel)]
  replace hs := ap_len hs 20
  generalize sh ++ [20] = sh at hs ⊢
  rw [mem_si rfl]
  refine vC_init_183 rfl rfl ⟨vin (i := 1) (n := 4) (by decide) (by decide), ?_⟩
  rw [mem_sr]
  show X mC_init 166 [(0, .ref 10), (1, .int 2)] [] (mem sh n xs _ ((5459, 1, 5637) :: _)) _ _
  refine vC_init_166 (b' := (2, 43)) (by decide) rfl (r1 := 5459) (mem_gr (by decide +kernel)) ⟨fun q => absurd q (by decide), fun _ => ?_⟩
  rw [mem_len hs 5 5765 rfl, mem_nwl hs 5 5765 rfl rfl (by decide +kernel) (by decide +kernel)]
  replace hs := ap_len hs 5
  generalize sh ++ [5] = sh at hs ⊢
  refine sSh_init rfl ?_
  rw [mem_new hs 20 5844 rfl rfl (by decide +kernel) (by decide +kernel)]
  replace hs := ap_len hs 20
  generalize sh ++ [20] = sh at hs ⊢
  rw [mem_si rfl]
  refine vC_init_183 rfl rfl ⟨vin (i := 2) (n := 4) (by decide) (by decide), ?_⟩
  rw [mem_sr]
  show X mC_init 166 [(0, .ref 10), (1, .int 3)] [] (mem sh n xs _ ((5459, 2, 5765) :: _)) _ _
  refine vC_init_166 (b' := (0, 0)) (by decide) rfl (r1 := 5459) (mem_gr (by decide +kernel)) ⟨fun q => absurd q (by decide), fun _ => ?_⟩
  rw [mem_len hs 5 5893 rfl, mem_nwl hs 5 5893 rfl rfl (by decide +kernel) (by decide +kernel)]
  replace hs := ap_len hs 5
  generalize sh ++ [5] = sh at hs ⊢
  refine sSh_init rfl ?_
  rw [mem_new hs 20 5972 rfl rfl (by decide +kernel) (by decide +kernel)]
  replace hs := ap_len hs 20
  generalize sh ++ [20] = sh at hs ⊢
  rw [mem_si rfl]
  refine vC_init_183 rfl rfl ⟨vin (i := 3) (n := 4) (by decide) (by decide), ?_⟩
  rw [mem_sr]
  show X mC_init 166 [(0, .ref 10), (1, .int 4)] [] (mem sh n xs _ ((5459, 3, 5893) :: _)) _ _
  exact vC_end166 (by decide) (h sh hs)
