theorem vLi_end95 {M : Mm} {b : Nat × Nat} {K : Mm → Prop} {v0 : Nat} {v1 : Int32} (kv0 : v0 % 64 = 1) (hv : 24 ≤ v1) (h : CV mLi_clear [.ref v0] M (fun N => X mLi_init 124 [(0, .ref v0)] [] N b (QV K))) : X mLi_init 95 [(0, .ref v0), (1, .int v1)] [] M b (QV K) := by
  refine x_iload_n (pc := 95) dLi_init_95 rfl (q := 1) rfl ?_
  refine x_bipush (pc := 96) dLi_init_96 (v := 24) rfl ?_
  refine x_icmp_ge (pc := 98) dLi_init_98 (t := 120) rfl (fun q1 => ?_) (fun q1 => absurd hv q1)
  refine x_aload_n (pc := 120) dLi_init_120 rfl (q := 0) rfl ?_
  exact x_invV (pc := 121) dLi_init_121 (c := 1) (S := []) (As := []) mlLi_49 hLi_clear rfl (by decide) rfl kv0 ⟨by decide, by decide⟩ ⟨Nat.zero_le _, Nat.zero_le _⟩ rfl (Nat.le_of_ble_eq_true rfl) (aftV (b' := b) ⟨Nat.le_refl _, Nat.le_refl _⟩ (fun N h => x_loc [0] rfl h) h)
theorem mem_len {sh : List Nat} {n : Nat} {xs : Nat → Int32} {I : List (Nat × Nat × Nat × Int32)} {G : List (Nat × Nat × Nat)} {m : Nat} (hs : sh.length = m) (k adr : Nat) (h : 64 * m + k = adr) : 64 * (mem sh n xs I G).1.1.length + k = adr := by
  subst hs; exact h
theorem mem_nwl {sh : List Nat} {n : Nat} {xs : Nat → Int32} {I : List (Nat × Nat × Nat × Int32)} {G : List (Nat × Nat × Nat)} {m : Nat} (hs : sh.length = m) (k adr : Nat) (h : 64 * m + k = adr) (h2 : (adr == 62) = false) (h3 : I.all (fun q => !(q.1 == adr)) = true) (h4 : G.all (fun q => !(q.1 == adr)) = true) : nw (mem sh n xs I G) k = mem (sh ++ [k]) n xs I G := mem_nw adr (by rw [hs]; exact h) h2 h3 h4
theorem mem_new {sh : List Nat} {n : Nat} {xs : Nat → Int32} {I : List (Nat × Nat × Nat × Int32)} {G : List (Nat × Nat × Nat)} {m a j : Nat} (hs : sh.length = m) (k adr : Nat) (h : 64 * m + k = adr) (h2 : (adr == 62) = false) (h3 : I.all (fun q => !(q.1 == adr)) = true) (h4 : G.all (fun q => !(q.1 == adr)) = true) : sr (nw (mem sh n xs I G) k) a j (some (64 * (mem sh n xs I G).1.1.length + k)) = mem (sh ++ [k]) n xs I ((a, j, adr) :: G) := by
  rw [mem_len hs k adr h, mem_nwl hs k adr h h2 h3 h4, mem_sr]
theorem ap_len {sh : List Nat} {m : Nat} (hs : sh.length = m) (k : Nat) : (sh ++ [k]).length = m + 1 := by rw [List.length_append, hs]; rfl
def laI0 : List (Nat × Nat × Nat × Int32) := []
def laG0 : List (Nat × Nat × Nat) := [(10, 3, 324), (324, 0, 199), (10, 2, 258), (258, 0, 199), (10, 1, 199), (199, 0, 70), (10, 0, 70), (70, 0, 145)]
def laG1 : List (Nat × Nat × Nat) := [(466, 23, 2633), (466, 22, 2569), (466, 21, 2505), (466, 20, 2441), (466, 19, 2377), (466, 18, 2313), (466, 17, 2249), (466, 16, 2185), (466, 15, 2121), (466, 14, 2057), (466, 13, 1993), (466, 12, 1929), (466, 11, 1865), (466, 10, 1801), (466, 9, 1737), (466, 8, 1673), (466, 7, 1609), (466, 6, 1545), (466, 5, 1481), (466, 4, 1417), (466, 3, 1353), (466, 2, 1289), (466, 1, 1225), (466, 0, 1161), (385, 15, 1100), (385, 14, 1036), (385, 9, 975), (385, 8, 909), (385, 7, 845), (385, 6, 782), (385, 5, 718), (385, 4, 654), (385, 3, 590), (385, 2, 525), (385, 0, 466), (10, 3, 324), (324, 0, 199), (10, 2, 258), (258, 0, 199), (10, 1, 199), (199, 0, 70), (10, 0, 70), (70, 0, 145)]
def laI1 : List (Nat × Nat × Nat × Int32) := [(782, 0, 64, -4), (718, 0, 64, -4), (975, 0, 7, 0), (654, 0, 64, 0), (590, 0, 64, 0), (385, 13, 14, 0), (385, 12, 13, 0), (385, 11, 12, 0), (385, 10, 11, 0), (909, 0, 8, 0), (845, 0, 8, 0), (525, 0, 8, 2), (385, 1, 2, 0)]
set_option maxRecDepth 20000 in
theorem sLi_init_A {sh : List Nat} {n : Nat} {xs : Nat → Int32} {K : Mm → Prop} (hs : sh.length = 7) (h : ∀ sh : List Nat, sh.length = 42 → K (mem sh n xs laI1 laG1)) : CV mLi_init [.ref 385] (mem sh n xs laI0 laG0) K := by
  refine call_of rfl (Nat.le_of_ble_eq_true rfl) rfl ?_
  refine vLi_init_0 ?_
  refine vLi_init_4 (b' := (34, 599)) (by decide) rfl ?_
  rw [mem_new hs 18 466 rfl rfl (by decide +kernel) (by decide +kernel)]
  replace hs := ap_len hs 18
  generalize sh ++ [18] = sh at hs ⊢
  refine vLi_init_13 (b' := (33, 591)) (by decide) rfl ?_
  rw [mem_new hs 13 525 rfl rfl (by decide +kernel) (by decide +kernel)]
  replace hs := ap_len hs 13
  generalize sh ++ [13] = sh at hs ⊢
  refine vLi_init_21 (b' := (32, 527)) (by decide) rfl ?_
  rw [mem_new hs 14 590 rfl rfl (by decide +kernel) (by decide +kernel)]
  replace hs := ap_len hs 14
  generalize sh ++ [14] = sh at hs ⊢
  refine vLi_init_29 (b' := (31, 463)) (by decide) rfl ?_
  rw [mem_new hs 14 654 rfl rfl (by decide +kernel) (by decide +kernel)]
  replace hs := ap_len hs 14
  generalize sh ++ [14] = sh at hs ⊢
  refine vLi_init_37 (b' := (30, 399)) (by decide) rfl ?_
  rw [mem_new hs 14 718 rfl rfl (by decide +kernel) (by decide +kernel)]
  replace hs := ap_len hs 14
  generalize sh ++ [14] = sh at hs ⊢
  refine vLi_init_45 (b' := (29, 335)) (by decide) rfl ?_
  rw [mem_new hs 14 782 rfl rfl (by decide +kernel) (by decide +kernel)]
  replace hs := ap_len hs 14
  generalize sh ++ [14] = sh at hs ⊢
  refine vLi_init_53 (b' := (28, 327)) (by decide) rfl ?_
  rw [mem_new hs 13 845 rfl rfl (by decide +kernel) (by decide +kernel)]
  replace hs := ap_len hs 13
  generalize sh ++ [13] = sh at hs ⊢
  refine vLi_init_61 (b' := (27, 319)) (by decide) rfl ?_
  rw [mem_new hs 13 909 rfl rfl (by decide +kernel) (by decide +kernel)]
  replace hs := ap_len hs 13
  generalize sh ++ [13] = sh at hs ⊢
  refine vLi_init_69 (b' := (26, 312)) (by decide) rfl ?_
  rw [mem_new hs 15 975 rfl rfl (by decide +kernel) (by decide +kernel)]
  replace hs := ap_len hs 15
  generalize sh ++ [15] = sh at hs ⊢
  refine vLi_init_77 (b' := (25, 288)) (by decide) rfl ?_
  rw [mem_new hs 12 1036 rfl rfl (by decide +kernel) (by decide +kernel)]
  replace hs := ap_len hs 12
  generalize sh ++ [12] = sh at hs ⊢
  refine vLi_init_85 (b' := (24, 264)) (by decide) rfl ?_
  rw [mem_new hs 12 1100 rfl rfl (by decide +kernel) (by decide +kernel)]
  replace hs := ap_len hs 12
  generalize sh ++ [12] = sh at hs ⊢
  refine vLi_init_93 ?_
  refine vLi_init_95 (b' := (23, 253)) (by decide) rfl (r1 := 466) (mem_gr (by decide +kernel)) ⟨fun q => absurd q (by decide), fun _ => ?_⟩
  rw [mem_len hs 9 1161 rfl, mem_nwl hs 9 1161 rfl rfl (by decide +kernel) (by decide +kernel)]
  replace hs := ap_len hs 9
  generalize sh ++ [9] = sh at hs ⊢
  refine sWo_init ?_
  refine vLi_init_113 rfl rfl ⟨vin (i := 0) (n := 24) (by decide) (by decide), ?_⟩
  rw [mem_sr]
  show X mLi_init 95 [(0, .ref 385), (1, .int 1)] [] (mem sh n xs _ ((466, 0, 1161) :: _)) _ _
  refine vLi_init_95 (b' := (22, 242)) (by decide) rfl (r1 := 466) (mem_gr (by decide +kernel)) ⟨fun q => absurd q (by decide), fun _ => ?_⟩
  rw [mem_len hs 9 1225 rfl, mem_nwl hs 9 1225 rfl rfl (by decide +kernel) (by decide +kernel)]
  replace hs := ap_len hs 9
  generalize sh ++ [9] = sh at hs ⊢
  refine sWo_init ?_
  refine vLi_init_113 rfl rfl ⟨vin (i := 1) (n := 24) (by decide) (by decide), ?_⟩
  rw [mem_sr]
  show X mLi_init 95 [(0, .ref 385), (1, .int 2)] [] (mem sh n xs _ ((466, 1, 1225) :: _)) _ _
  refine vLi_init_95 (b' := (21, 231)) (by decide) rfl (r1 := 466) (mem_gr (by decide +kernel)) ⟨fun q => absurd q (by decide), fun _ => ?_⟩
  rw [mem_len hs 9 1289 rfl, mem_nwl hs 9 1289 rfl rfl (by decide +kernel) (by decide +kernel)]
  replace hs := ap_len hs 9
  generalize sh ++ [9] = sh at hs ⊢
  refine sWo_init ?_
  refine vLi_init_113 rfl rfl ⟨vin (i := 2) (n := 24) (by decide) (by decide), ?_⟩
  rw [mem_sr]
  show X mLi_init 95 [(0, .ref 385), (1, .int 3)] [] (mem sh n xs _ ((466, 2, 1289) :: _)) _ _
  refine vLi_init_95 (b' := (20, 220)) (by decide) rfl (r1 := 466) (mem_gr (by decide +kernel)) ⟨fun q => absurd q (by decide), fun _ => ?_⟩
  rw [mem_len hs 9 1353 rfl, mem_nwl hs 9 1353 rfl rfl (by decide +kernel) (by decide +kernel)]
  replace hs := ap_len hs 9
  generalize sh ++ [9] = sh at hs ⊢
  refine sWo_init ?_
  refine vLi_init_113 rfl rfl ⟨vin (i := 3) (n := 24) (by decide) (by decide), ?_⟩
  rw [mem_sr]
  show X mLi_init 95 [(0, .ref 385), (1, .int 4)] [] (mem sh n xs _ ((466, 3, 1353) :: _)) _ _
  refine vLi_init_95 (b' := (19, 209)) (by decide) rfl (r1 := 466) (mem_gr (by decide +kernel)) ⟨fun q => absurd q (by decide), fun _ => ?_⟩
  rw [mem_len hs 9 1417 rfl, mem_nwl hs 9 1417 rfl rfl (by decide +kernel) (by decide +kernel)]
  replace hs := ap_len hs 9
  generalize sh ++ [9] = sh at hs ⊢
  refine sWo_init ?_
  refine vLi_init_113 rfl rfl ⟨vin (i := 4) (n := 24) (by decide) (by decide), ?_⟩
  rw [mem_sr]
  show X mLi_init 95 [(0, .ref 385), (1, .int 5)] [] (mem sh n xs _ ((466, 4, 1417) :: _)) _ _
  refine vLi_init_95 (b' := (18, 198)) (by decide) rfl (r1 := 466) (mem_gr (by decide +kernel)) ⟨fun q => absurd q (by decide), fun _ => ?_⟩
  rw [mem_len hs 9 1481 rfl, mem_nwl hs 9 1481 rfl rfl (by decide +kernel) (by decide +kernel)]
  replace hs := ap_len hs 9
  generalize sh ++ [9] = sh at hs ⊢
  refine sWo_init ?_
  refine vLi_init_113 rfl rfl ⟨vin (i := 5) (n := 24) (by decide) (by decide), ?_⟩
  rw [mem_sr]
  show X mLi_init 95 [(0, .ref 385), (1, .int 6)] [] (mem sh n xs _ ((466, 5, 1481) :: _)) _ _
  refine vLi_init_95 (b' := (17, 187)) (by decide) rfl (r1 := 466) (mem_gr (by decide +kernel)) ⟨fun q => absurd q (by decide), fun _ => ?_⟩
  rw [mem_len hs 9 1545 rfl, mem_nwl hs 9 1545 rfl rfl (by decide +kernel) (by decide +kernel)]
  replace hs := ap_len hs 9
  generalize sh ++ [9] = sh at hs ⊢
  refine sWo_init ?_
  refine vLi_init_113 rfl rfl ⟨vin (i := 6) (n := 24) (by decide) (by decide), ?_⟩
  rw [mem_sr]
  show X mLi_init 95 [(0, .ref 385), (1, .int 7)] [] (mem sh n xs _ ((466, 6, 1545) :: _)) _ _
  refine vLi_init_95 (b' := (16, 176)) (by decide) rfl (r1 := 466) (mem_gr (by decide +kernel)) ⟨fun q => absurd q (by decide), fun _ => ?_⟩
  rw [mem_len hs 9 1609 rfl, mem_nwl hs 9 1609 rfl rfl (by decide +kernel) (by decide +kernel)]
  replace hs := ap_len hs 9
  generalize sh ++ [9] = sh at hs ⊢
  refine sWo_init ?_
  refine vLi_init_113 rfl rfl ⟨vin (i := 7) (n := 24) (by decide) (by decide), ?_⟩
  rw [mem_sr]
  show X mLi_init 95 [(0, .ref 385), (1, .int 8)] [] (mem sh n xs _ ((466, 7, 1609) :: _)) _ _
  refine vLi_init_95 (b' := (15, 165)) (by decide) rfl (r1 := 466) (mem_gr (by decide +kernel)) ⟨fun q => absurd q (by decide), fun _ => ?_⟩
  rw [mem_len hs 9 1673 rfl, mem_nwl hs 9 1673 rfl rfl (by decide +kernel) (by decide +kernel)]
  replace hs := ap_len hs 9
  generalize sh ++ [9] = sh at hs ⊢
  refine sWo_init ?_
  refine vLi_init_113 rfl rfl ⟨vin (i := 8) (n := 24) (by decide) (by decide), ?_⟩
  rw [mem_sr]
  show X mLi_init 95 [(0, .ref 385), (1, .int 9)] [] (mem sh n xs _ ((466, 8, 1673) :: _)) _ _
  refine vLi_init_95 (b' := (14, 154)) (by decide) rfl (r1 := 466) (mem_gr (by decide +kernel)) ⟨fun q => absurd q (by decide), fun _ => ?_⟩
  rw [mem_len hs 9 1737 rfl, mem_nwl hs 9 1737 rfl rfl (by decide +kernel) (by decide +kernel)]
  replace hs := ap_len hs 9
  generalize sh ++ [9] = sh at hs ⊢
  refine sWo_init ?_
  refine vLi_init_113 rfl rfl ⟨vin (i := 9) (n := 24) (by decide) (by decide), ?_⟩
  rw [mem_sr]
  show X mLi_init 95 [(0, .ref 385), (1, .int 10)] [] (mem sh n xs _ ((466, 9, 1737) :: _)) _ _
  refine vLi_init_95 (b' := (13, 143)) (by decide) rfl (r1 := 466) (mem_gr (by decide +kernel)) ⟨fun q => absurd q (by decide), fun _ => ?_⟩
  rw [mem_len hs 9 1801 rfl, mem_nwl hs 9 1801 rfl rfl (by decide +kernel) (by decide +kernel)]
  replace hs := ap_len hs 9
  generalize sh ++ [9] = sh at hs ⊢
  refine sWo_init ?_
  refine vLi_init_113 rfl rfl ⟨vin (i := 10) (n := 24) (by decide) (by decide), ?_⟩
  rw [mem_sr]
  show X mLi_init 95 [(0, .ref 385), (1, .int 11)] [] (mem sh n xs _ ((466, 10, 1801) :: _)) _ _
  refine vLi_init_95 (b' := (12, 132)) (by decide) rfl (r1 := 466) (mem_gr (by decide +kernel)) ⟨fun q => absurd q (by decide), fun _ => ?_⟩
  rw [mem_len hs 9 1865 rfl, mem_nwl hs 9 1865 rfl rfl (by decide +kernel) (by decide +kernel)]
  replace hs := ap_len hs 9
  generalize sh ++ [9] = sh at hs ⊢
  refine sWo_init ?_
  refine vLi_init_113 rfl rfl ⟨vin (i := 11) (n := 24) (by decide) (by decide), ?_⟩
  rw [mem_sr]
  show X mLi_init 95 [(0, .ref 385), (1, .int 12)] [] (mem sh n xs _ ((466, 11, 1865) :: _)) _ _
  refine vLi_init_95 (b' := (11, 121)) (by decide) rfl (r1 := 466) (mem_gr (by decide +kernel)) ⟨fun q => absurd q (by decide), fun _ => ?_⟩
  rw [mem_len hs 9 1929 rfl, mem_nwl hs 9 1929 rfl rfl (by decide +kernel) (by decide +kernel)]
  replace hs := ap_len hs 9
  generalize sh ++ [9] = sh at hs ⊢
  refine sWo_init ?_
  refine vLi_init_113 rfl rfl ⟨vin (i := 12) (n := 24) (by decide) (by decide), ?_⟩
  rw [mem_sr]
  show X mLi_init 95 [(0, .ref 385), (1, .int 13)] [] (mem sh n xs _ ((466, 12, 1929) :: _)) _ _
  refine vLi_init_95 (b' := (10, 110)) (by decide) rfl (r1 := 466) (mem_gr (by decide +kernel)) ⟨fun q => absurd q (by decide), fun _ => ?_⟩
  rw [mem_len hs 9 1993 rfl, mem_nwl hs 9 1993 rfl rfl (by decide +kernel) (by decide +kernel)]
  replace hs := ap_len hs 9
  generalize sh ++ [9] = sh at hs ⊢
  refine sWo_init ?_
  refine vLi_init_113 rfl rfl ⟨vin (i := 13) (n := 24) (by decide) (by decide), ?_⟩
  rw [mem_sr]
  show X mLi_init 95 [(0, .ref 385), (1, .int 14)] [] (mem sh n xs _ ((466, 13, 1993) :: _)) _ _
  refine vLi_init_95 (b' := (9, 99)) (by decide) rfl (r1 := 466) (mem_gr (by decide +kernel)) ⟨fun q => absurd q (by decide), fun _ => ?_⟩
  rw [mem_len hs 9 2057 rfl, mem_nwl hs 9 2057 rfl rfl (by decide +kernel) (by decide +kernel)]
  replace hs := ap_len hs 9
  generalize sh ++ [9] = sh at hs ⊢
  refine sWo_init ?_
  refine vLi_init_113 rfl rfl ⟨vin (i := 14) (n := 24) (by decide) (by decide), ?_⟩
  rw [mem_sr]
  show X mLi_init 95 [(0, .ref 385), (1, .int 15)] [] (mem sh n xs _ ((466, 14, 2057) :: _)) _ _
  refine vLi_init_95 (b' := (8, 88)) (by decide) rfl (r1 := 466) (mem_gr (by decide +kernel)) ⟨fun q => absurd q (by decide), fun _ => ?_⟩
  rw [mem_len hs 9 2121 rfl, mem_nwl hs 9 2121 rfl rfl (by decide +kernel) (by decide +kernel)]
  replace hs := ap_len hs 9
  generalize sh ++ [9] = sh at hs ⊢
  refine sWo_init ?_
  refine vLi_init_113 rfl rfl ⟨vin (i := 15) (n := 24) (by decide) (by decide), ?_⟩
  rw [mem_sr]
  show X mLi_init 95 [(0, .ref 385), (1, .int 16)] [] (mem sh n xs _ ((466, 15, 2121) :: _)) _ _
  refine vLi_init_95 (b' := (7, 77)) (by decide) rfl (r1 := 466) (mem_gr (by decide +kernel)) ⟨fun q => absurd q (by decide), fun _ => ?_⟩
  rw [mem_len hs 9 2185 rfl, mem_nwl hs 9 2185 rfl rfl (by decide +kernel) (by decide +kernel)]
  replace hs := ap_len hs 9
  generalize sh ++ [9] = sh at hs ⊢
  refine sWo_init ?_
  refine vLi_init_113 rfl rfl ⟨vin (i := 16) (n := 24) (by decide) (by decide), ?_⟩
  rw [mem_sr]
  show X mLi_init 95 [(0, .ref 385), (1, .int 17)] [] (mem sh n xs _ ((466, 16, 2185) :: _)) _ _
  refine vLi_init_95 (b' := (6, 66)) (by decide) rfl (r1 := 466) (mem_gr (by decide +kernel)) ⟨fun q => absurd q (by decide), fun _ => ?_⟩
  rw [mem_len hs 9 2249 rfl, mem_nwl hs 9 2249 rfl rfl (by decide +kernel) (by decide +kernel)]
  replace hs := ap_len hs 9
  generalize sh ++ [9] = sh at hs ⊢
  refine sWo_init ?_
  refine vLi_init_113 rfl rfl ⟨vin (i := 17) (n := 24) (by decide) (by decide), ?_⟩
  rw [mem_sr]
  show X mLi_init 95 [(0, .ref 385), (1, .int 18)] [] (mem sh n xs _ ((466, 17, 2249) :: _)) _ _
  refine vLi_init_95 (b' := (5, 55)) (by decide) rfl (r1 := 466) (mem_gr (by decide +kernel)) ⟨fun q => absurd q (by decide), fun _ => ?_⟩
  rw [mem_len hs 9 2313 rfl, mem_nwl hs 9 2313 rfl rfl (by decide +kernel) (by decide +kernel)]
  replace hs := ap_len hs 9
  generalize sh ++ [9] = sh at hs ⊢
  refine sWo_init ?_
  refine vLi_init_113 rfl rfl ⟨vin (i := 18) (n := 24) (by decide) (by decide), ?_⟩
  rw [mem_sr]
  show X mLi_init 95 [(0, .ref 385), (1, .int 19)] [] (mem sh n xs _ ((466, 18, 2313) :: _)) _ _
  refine vLi_init_95 (b' := (4, 44)) (by decide) rfl (r1 := 466) (mem_gr (by decide +kernel)) ⟨fun q => absurd q (by decide), fun _ => ?_⟩
  rw [mem_len hs 9 2377 rfl, mem_nwl hs 9 2377 rfl rfl (by decide +kernel) (by decide +kernel)]
  replace hs := ap_len hs 9
  generalize sh ++ [9] = sh at hs ⊢
  refine sWo_init ?_
  refine vLi_init_113 rfl rfl ⟨vin (i := 19) (n := 24) (by decide) (by decide), ?_⟩
  rw [mem_sr]
  show X mLi_init 95 [(0, .ref 385), (1, .int 20)] [] (mem sh n xs _ ((466, 19, 2377) :: _)) _ _
  refine vLi_init_95 (b' := (3, 33)) (by decide) rfl (r1 := 466) (mem_gr (by decide +kernel)) ⟨fun q => absurd q (by decide), fun _ => ?_⟩
  rw [mem_len hs 9 2441 rfl, mem_nwl hs 9 2441 rfl rfl (by decide +kernel) (by decide +kernel)]
  replace hs := ap_len hs 9
  generalize sh ++ [9] = sh at hs ⊢
  refine sWo_init ?_
  refine vLi_init_113 rfl rfl ⟨vin (i := 20) (n := 24) (by decide) (by decide), ?_⟩
  rw [mem_sr]
  show X mLi_init 95 [(0, .ref 385), (1, .int 21)] [] (mem sh n xs _ ((466, 20, 2441) :: _)) _ _
  refine vLi_init_95 (b' := (2, 22)) (by decide) rfl (r1 := 466) (mem_gr (by decide +kernel)) ⟨fun q => absurd q (by decide), fun _ => ?_⟩
  rw [mem_len hs 9 2505 rfl, mem_nwl hs 9 2505 rfl rfl (by decide +kernel) (by decide +kernel)]
  replace hs := ap_len hs 9
  generalize sh ++ [9] = sh at hs ⊢
  refine sWo_init ?_
  refine vLi_init_113 rfl rfl ⟨vin (i := 21) (n := 24) (by decide) (by decide), ?_⟩
  rw [mem_sr]
  show X mLi_init 95 [(0, .ref 385), (1, .int 22)] [] (mem sh n xs _ ((466, 21, 2505) :: _)) _ _
  refine vLi_init_95 (b' := (1, 11)) (by decide) rfl (r1 := 466) (mem_gr (by decide +kernel)) ⟨fun q => absurd q (by decide), fun _ => ?_⟩
  rw [mem_len hs 9 2569 rfl, mem_nwl hs 9 2569 rfl rfl (by decide +kernel) (by decide +kernel)]
  replace hs := ap_len hs 9
  generalize sh ++ [9] = sh at hs ⊢
  refine sWo_init ?_
  refine vLi_init_113 rfl rfl ⟨vin (i := 22) (n := 24) (by decide) (by decide), ?_⟩
  rw [mem_sr]
  show X mLi_init 95 [(0, .ref 385), (1, .int 23)] [] (mem sh n xs _ ((466, 22, 2569) :: _)) _ _
  refine vLi_init_95 (b' := (0, 0)) (by decide) rfl (r1 := 466) (mem_gr (by decide +kernel)) ⟨fun q => absurd q (by decide), fun _ => ?_⟩
  rw [mem_len hs 9 2633 rfl, mem_nwl hs 9 2633 rfl rfl (by decide +kernel) (by decide +kernel)]
  replace hs := ap_len hs 9
  generalize sh ++ [9] = sh at hs ⊢
  refine sWo_init ?_
  refine vLi_init_113 rfl rfl ⟨vin (i := 23) (n := 24) (by decide) (by decide), ?_⟩
  rw [mem_sr]
  show X mLi_init 95 [(0, .ref 385), (1, .int 24)] [] (mem sh n xs _ ((466, 23, 2633) :: _)) _ _
  refine vLi_end95 rfl (by decide) ?_
  have hl := mem_lr (sh := sh) (n := n) (xs := xs) (I := laI0) (G := laG1) (r := 385) rfl (by decide +kernel) (by decide +kernel)
  refine sLi_clear hl ?_
  rw [mem_si rfl, mem_fl rfl]
  refine vLi_init_124 rfl ?_
  refine sLi_settle0 hl ((mem_gi rfl).trans (by decide +kernel)) ?_
  unfold st0 al0 so0 fr0 sw0
  rw [mem_fl rfl, mem_fl rfl, mem_si rfl, mem_si rfl, mem_si rfl, mem_si rfl, mem_fl rfl, mem_fl rfl, mem_fl rfl, mem_fl rfl, mem_fl rfl]
  refine vLi_init_128 ?_
  exact h sh hs
