section MG1
theorem x_mmin {m : MI} {pc : Nat} {L : List (Nat × Value)} {S : List Value} {M : Mm} {b : Nat × Nat} {Q : Option Value → Mm → Prop} {i : Nat} {x y : Int32} (hd : decode (mB m) pc = .ok (.invokestatic i, 3)) (hl : Cond.methodLink (mY m).cls i (mY mJm_min) ∈ TG) (hf : 1 ≤ mF m) (hcat : (S.map fun v => v.category).sum + 13 ≤ mO m) (h : X m (pc + 3) L (.int (if y < x then y else x) :: S) M b Q) : X m pc L (.int y :: .int x :: S) M b Q := by
  intro g p l e R s mid args below meth cc Z C hR H locs cells slots ls hH hw hL hS hl2 hss hc hc2
  have hts := C.2.2.2.2.1
  obtain ⟨f1, f2, f3, f4⟩ := C.2.2.2.2.2.1
  have K := h g p l e R s mid args below meth cc Z C hR H locs cells slots ls hH hw hL (ok1 (tl (tl hS)) trivial) hl2 hss hc hc2
  have h1 : (Cond.methodLink (mY m).cls i Lib.Math.min.name).before args s = true := hts _ hl
  have h2 : (Cond.static Lib.Math.min.name).before args s = true := hts _ hJm_min.2
  have h3 : (Cond.initialized "java/lang/Math").before args s = true := hts _ gJm_min.2.1
  have h4 : (Cond.code Lib.Math.min.name Lib.Math.min.code 2 (some .int)).before args s = true := by
    have := hts _ gJm_min.1
    have e : mB mJm_min = Lib.Math.min.code := by decide +kernel
    rw [e] at this
    exact this
  exact va_mmin (rest := S.map (cz g)) C.1 C.2.1 (C.2.2.1.trans hl2.1.symm) C.2.2.2.1 h1 h2 h3 h4 (Nat.le_trans hf f1) (by rw [cat_cz]; omega) (by omega) (by omega) hd K

theorem uC_widest_40 {M : Mm} {b : Nat × Nat} {K : Int32 → Mm → Prop} {v0 : Nat} {v1 : Int32} {v2 : Int32} {v3 : Int32} {v4 : Int32} {v5 : Int32} {r1 : Nat} (kv0 : v0 % 64 = 10) (e1 : gr M v0 11 = some r1)
    (h : (((v3 < (if (gi M r1 7) < (gi M r1 6) then (gi M r1 7) else (gi M r1 6) : Int32)) ∨ (¬ v3 < (if (gi M r1 7) < (gi M r1 6) then (gi M r1 7) else (gi M r1 6) : Int32) ∧ (if (gi M r1 7) < (gi M r1 6) then (gi M r1 7) else (gi M r1 6) : Int32) = v3 ∧ ¬ ((gi M r1 6) + (gi M r1 7)) ≤ v4)) → (X mC_widest 24 [(0, .ref v0), (1, .int v1), (2, .int v5), (3, .int (if (gi M r1 7) < (gi M r1 6) then (gi M r1 7) else (gi M r1 6) : Int32)), (4, .int ((gi M r1 6) + (gi M r1 7))), (5, .int (v5 + 1))] [] M b (QI K))) ∧ (((¬ v3 < (if (gi M r1 7) < (gi M r1 6) then (gi M r1 7) else (gi M r1 6) : Int32) ∧ ¬ (if (gi M r1 7) < (gi M r1 6) then (gi M r1 7) else (gi M r1 6) : Int32) = v3) ∨ (¬ v3 < (if (gi M r1 7) < (gi M r1 6) then (gi M r1 7) else (gi M r1 6) : Int32) ∧ (if (gi M r1 7) < (gi M r1 6) then (gi M r1 7) else (gi M r1 6) : Int32) = v3 ∧ ((gi M r1 6) + (gi M r1 7)) ≤ v4)) → (X mC_widest 24 [(0, .ref v0), (1, .int v1), (2, .int v2), (3, .int v3), (4, .int v4), (5, .int (v5 + 1))] [] M b (QI K)))) : X mC_widest 40 [(0, .ref v0), (1, .int v1), (2, .int v2), (3, .int v3), (4, .int v4), (5, .int v5)] [] M b (QI K) := by
  refine x_wf (fun hw => ?_)
  refine x_aload_n (pc := 40) dC_widest_40 rfl (q := 0) rfl ?_
  refine x_getR (pc := 41) dC_widest_41 kv0 flC_73 rfl e1 ?_
  refine x_getI (pc := 44) dC_widest_44 (wfk hw e1 kv0) flC_251 rfl ?_
  refine x_aload_n (pc := 47) dC_widest_47 rfl (q := 0) rfl ?_
  refine x_getR (pc := 48) dC_widest_48 kv0 flC_73 rfl e1 ?_
  refine x_getI (pc := 51) dC_widest_51 (wfk hw e1 kv0) flC_254 rfl ?_
  refine x_mmin (pc := 54) dC_widest_54 mlC_264 (by decide) (Nat.le_of_ble_eq_true rfl) ?_
  refine x_istore (pc := 57) dC_widest_57 (by decide) (L' := [(6, .int (if (gi M r1 7) < (gi M r1 6) then (gi M r1 7) else (gi M r1 6) : Int32)), (0, .ref v0), (1, .int v1), (2, .int v2), (3, .int v3), (4, .int v4), (5, .int v5)]) rfl ?_
  refine x_aload_n (pc := 59) dC_widest_59 rfl (q := 1) rfl ?_
  refine x_getR (pc := 60) dC_widest_60 kv0 flC_73 rfl e1 ?_
  refine x_getI (pc := 63) dC_widest_63 (wfk hw e1 kv0) flC_251 rfl ?_
  refine x_aload_n (pc := 66) dC_widest_66 rfl (q := 1) rfl ?_
  refine x_getR (pc := 67) dC_widest_67 kv0 flC_73 rfl e1 ?_
  refine x_getI (pc := 70) dC_widest_70 (wfk hw e1 kv0) flC_254 rfl ?_
  refine x_iadd (pc := 73) dC_widest_73 ?_
  refine x_istore (pc := 74) dC_widest_74 (by decide) (L' := [(7, .int ((gi M r1 6) + (gi M r1 7))), (6, .int (if (gi M r1 7) < (gi M r1 6) then (gi M r1 7) else (gi M r1 6) : Int32)), (0, .ref v0), (1, .int v1), (2, .int v2), (3, .int v3), (4, .int v4), (5, .int v5)]) rfl ?_
  refine x_iload (pc := 76) dC_widest_76 (q := 1) rfl ?_
  refine x_iload_n (pc := 78) dC_widest_78 rfl (q := 5) rfl ?_
  obtain ⟨g1_0, g1_1⟩ := h
  have g1_k0 : (v3 < (if (gi M r1 7) < (gi M r1 6) then (gi M r1 7) else (gi M r1 6) : Int32)) ∨ (¬ v3 < (if (gi M r1 7) < (gi M r1 6) then (gi M r1 7) else (gi M r1 6) : Int32) ∧ (if (gi M r1 7) < (gi M r1 6) then (gi M r1 7) else (gi M r1 6) : Int32) = v3 ∧ ¬ ((gi M r1 6) + (gi M r1 7)) ≤ v4) → X mC_widest 95 [(7, .int ((gi M r1 6) + (gi M r1 7))), (6, .int (if (gi M r1 7) < (gi M r1 6) then (gi M r1 7) else (gi M r1 6) : Int32)), (0, .ref v0), (1, .int v1), (2, .int v2), (3, .int v3), (4, .int v4), (5, .int v5)] [] M b (QI K) := fun q => by
    have h := g1_0 q
    refine x_iload (pc := 95) dC_widest_95 (q := 7) rfl ?_
    refine x_istore_n (pc := 97) dC_widest_97 rfl (by decide) (L' := [(2, .int v5), (7, .int ((gi M r1 6) + (gi M r1 7))), (6, .int (if (gi M r1 7) < (gi M r1 6) then (gi M r1 7) else (gi M r1 6) : Int32)), (0, .ref v0), (1, .int v1), (3, .int v3), (4, .int v4), (5, .int v5)]) rfl ?_
    refine x_iload (pc := 98) dC_widest_98 (q := 2) rfl ?_
    refine x_istore_n (pc := 100) dC_widest_100 rfl (by decide) (L' := [(3, .int (if (gi M r1 7) < (gi M r1 6) then (gi M r1 7) else (gi M r1 6) : Int32)), (2, .int v5), (7, .int ((gi M r1 6) + (gi M r1 7))), (6, .int (if (gi M r1 7) < (gi M r1 6) then (gi M r1 7) else (gi M r1 6) : Int32)), (0, .ref v0), (1, .int v1), (4, .int v4), (5, .int v5)]) rfl ?_
    refine x_iload (pc := 101) dC_widest_101 (q := 2) rfl ?_
    refine x_istore (pc := 103) dC_widest_103 (by decide) (L' := [(4, .int ((gi M r1 6) + (gi M r1 7))), (3, .int (if (gi M r1 7) < (gi M r1 6) then (gi M r1 7) else (gi M r1 6) : Int32)), (2, .int v5), (7, .int ((gi M r1 6) + (gi M r1 7))), (6, .int (if (gi M r1 7) < (gi M r1 6) then (gi M r1 7) else (gi M r1 6) : Int32)), (0, .ref v0), (1, .int v1), (5, .int v5)]) rfl ?_
    refine x_iinc (pc := 105) dC_widest_105 (q := 7) rfl (v := v5 + 1) rfl (by decide) (L' := [(5, .int (v5 + 1)), (4, .int ((gi M r1 6) + (gi M r1 7))), (3, .int (if (gi M r1 7) < (gi M r1 6) then (gi M r1 7) else (gi M r1 6) : Int32)), (2, .int v5), (7, .int ((gi M r1 6) + (gi M r1 7))), (6, .int (if (gi M r1 7) < (gi M r1 6) then (gi M r1 7) else (gi M r1 6) : Int32)), (0, .ref v0), (1, .int v1)]) rfl ?_
    refine x_goto (pc := 108) dC_widest_108 (t := 24) rfl ?_
    exact x_loc [6, 7, 3, 2, 1, 0] rfl h
  have g1_k1 : (¬ v3 < (if (gi M r1 7) < (gi M r1 6) then (gi M r1 7) else (gi M r1 6) : Int32) ∧ ¬ (if (gi M r1 7) < (gi M r1 6) then (gi M r1 7) else (gi M r1 6) : Int32) = v3) ∨ (¬ v3 < (if (gi M r1 7) < (gi M r1 6) then (gi M r1 7) else (gi M r1 6) : Int32) ∧ (if (gi M r1 7) < (gi M r1 6) then (gi M r1 7) else (gi M r1 6) : Int32) = v3 ∧ ((gi M r1 6) + (gi M r1 7)) ≤ v4) → X mC_widest 105 [(7, .int ((gi M r1 6) + (gi M r1 7))), (6, .int (if (gi M r1 7) < (gi M r1 6) then (gi M r1 7) else (gi M r1 6) : Int32)), (0, .ref v0), (1, .int v1), (2, .int v2), (3, .int v3), (4, .int v4), (5, .int v5)] [] M b (QI K) := fun q => by
    have h := g1_1 q
    refine x_iinc (pc := 105) dC_widest_105 (q := 7) rfl (v := v5 + 1) rfl (by decide) (L' := [(5, .int (v5 + 1)), (7, .int ((gi M r1 6) + (gi M r1 7))), (6, .int (if (gi M r1 7) < (gi M r1 6) then (gi M r1 7) else (gi M r1 6) : Int32)), (0, .ref v0), (1, .int v1), (2, .int v2), (3, .int v3), (4, .int v4)]) rfl ?_
    refine x_goto (pc := 108) dC_widest_108 (t := 24) rfl ?_
    exact x_loc [3, 4, 5, 6, 7, 0] rfl h
  refine x_icmp_gt (pc := 79) dC_widest_79 (t := 95) rfl (fun q1 => ?_) (fun q1 => ?_)
  · exact g1_k0 (Or.inl q1)
  · refine x_iload (pc := 82) dC_widest_82 (q := 1) rfl ?_
    refine x_iload_n (pc := 84) dC_widest_84 rfl (q := 5) rfl ?_
    refine x_icmp_ne (pc := 85) dC_widest_85 (t := 105) rfl (fun q2 => ?_) (fun q2 => ?_)
    · exact g1_k1 (Or.inl ⟨q1, q2⟩)
    · refine x_iload (pc := 88) dC_widest_88 (q := 0) rfl ?_
      refine x_iload (pc := 90) dC_widest_90 (q := 6) rfl ?_
      refine x_icmp_le (pc := 92) dC_widest_92 (t := 105) rfl (fun q3 => ?_) (fun q3 => ?_)
      · exact g1_k1 (Or.inr ⟨q1, q2, q3⟩)
      · exact g1_k0 (Or.inr ⟨q1, q2, q3⟩)

theorem uTo_advance_128 {M : Mm} {b : Nat × Nat} {K : Mm → Prop} {v0 : Nat} {w0 : Int32} {w1 : Nat} {r1 : Nat} (kw1 : w1 % 64 = 7) (kv0 : v0 % 64 = 7) (e1 : gr M v0 0 = some r1)
    (h : CI mTa_figures [.ref r1, .int (gi (si M w1 3 w0) v0 2), .int (if ((gi (si M w1 3 w0) v0 2) + 3) < (gi (si M w1 3 w0) v0 3) then ((gi (si M w1 3 w0) v0 2) + 3) else (gi (si M w1 3 w0) v0 3) : Int32)] (si M w1 3 w0) (fun rv N => X mTo_advance 156 [(0, .ref v0)] [.int rv, .ref v0] N b (QV K))) : X mTo_advance 128 [(0, .ref v0)] [.int w0, .ref w1] M b (QV K) := by
  refine x_wf (fun hw => ?_)
  refine x_putI (pc := 128) dTo_advance_128 kw1 flTo_22 rfl rfl ?_
  refine x_aload_n (pc := 131) dTo_advance_131 rfl (q := 0) rfl ?_
  refine x_aload_n (pc := 132) dTo_advance_132 rfl (q := 0) rfl ?_
  refine x_getR (pc := 133) dTo_advance_133 kv0 flTo_9 rfl e1 ?_
  refine x_aload_n (pc := 136) dTo_advance_136 rfl (q := 0) rfl ?_
  refine x_getI (pc := 137) dTo_advance_137 kv0 flTo_19 rfl ?_
  refine x_aload_n (pc := 140) dTo_advance_140 rfl (q := 0) rfl ?_
  refine x_getI (pc := 141) dTo_advance_141 kv0 flTo_22 rfl ?_
  refine x_aload_n (pc := 144) dTo_advance_144 rfl (q := 0) rfl ?_
  refine x_getI (pc := 145) dTo_advance_145 kv0 flTo_19 rfl ?_
  refine x_iconst (pc := 148) dTo_advance_148 (v := 3) rfl ?_
  refine x_iadd (pc := 149) dTo_advance_149 ?_
  refine x_mmin (pc := 150) dTo_advance_150 mlTo_44 (by decide) (Nat.le_of_ble_eq_true rfl) ?_
  exact x_invV (pc := 153) dTo_advance_153 (c := 6) (S := [.ref v0]) (As := [.int (gi (si M w1 3 w0) v0 2), .int (if ((gi (si M w1 3 w0) v0 2) + 3) < (gi (si M w1 3 w0) v0 3) then ((gi (si M w1 3 w0) v0 2) + 3) else (gi (si M w1 3 w0) v0 3) : Int32)]) mlTo_50 hTa_figures rfl (by decide) rfl (wfk hw e1 kv0) ⟨by decide, by decide⟩ ⟨Nat.zero_le _, Nat.zero_le _⟩ rfl (Nat.le_of_ble_eq_true rfl) (aftI (b' := b) ⟨Nat.le_refl _, Nat.le_refl _⟩ (fun rv N h => h) h)
end MG1
section MG2
/-! ===== numbers, loops, filled rows ===== -/
theorem nI_s (i : Nat) : nI i + 1 = nI (i + 1) := by
  show Int32.ofNat i + 1 = Int32.ofNat (i + 1)
  rw [Int32.ofNat_add]; rfl
theorem lp (n : Nat) {P : Nat → Prop} (hs : ∀ i, i < n → P (i + 1) → P i) (h0 : P n) : P 0 := by
  have key : ∀ k, k ≤ n → P (n - k) := by
    intro k
    induction k with
    | zero => intro _; exact h0
    | succ k ih =>
      intro hk
      have h1 := hs (n - (k + 1)) (by omega)
      rw [show n - (k + 1) + 1 = n - k by omega] at h1
      exact h1 (ih (by omega))
  have := key n (Nat.le_refl n)
  rwa [Nat.sub_self] at this
theorem nle {i n : Nat} (hi : i < 2 ^ 31) (hn : n < 2 ^ 31) : (nI n ≤ nI i) ↔ n ≤ i := Int32.ofNat_le_iff_le hn hi
theorem nlt {i n : Nat} (hi : i < 2 ^ 31) (hn : n < 2 ^ 31) : (nI n < nI i) ↔ n < i := Int32.ofNat_lt_iff_lt hn hi
theorem nge {c : Int32} {i n : Nat} (hc : c = nI n) (hn : n < 2 ^ 31) (h : i < n) : ¬ c ≤ nI i := by
  subst hc
  rw [nle (by omega) hn]
  omega
theorem nself {c : Int32} {n : Nat} (hc : c = nI n) : c ≤ nI n := by
  subst hc
  exact Int32.le_refl _
theorem vin {i n : Nat} (h : i < n) (hn : n < 2 ^ 31) : vp_in (nI i) n := by
  unfold vp_in
  have h1 : (nI i).toNatClampNeg = i := Int32.toNatClampNeg_ofNat_of_lt (by omega)
  rintro (h2 | h2)
  · have : (0 : Int32) ≤ nI i := Int32.zero_le_ofNat_of_lt (by omega)
    exact absurd h2 (Int32.not_lt.mpr this)
  · rw [h1] at h2; omega
theorem ncl {i : Nat} (h : i < 2 ^ 31) : (nI i).toNatClampNeg = i := Int32.toNatClampNeg_ofNat_of_lt h
theorem n0 (i : Nat) (h : i < 2 ^ 31) : ¬ nI i < 0 := Int32.not_lt.mpr (Int32.zero_le_ofNat_of_lt h)
theorem ninj {i j : Nat} (hi : i < 2 ^ 31) (hj : j < 2 ^ 31) : nI i = nI j ↔ i = j := by
  constructor
  · intro h
    have := congrArg Int32.toNatClampNeg h
    rwa [ncl hi, ncl hj] at this
  · intro h; rw [h]
/-- a number that is no less than 0 and less than n is one of 0 .. n - 1 -/
theorem rng {x c : Int32} {n : Nat} (hc : c = nI n) (hn : n < 2 ^ 31) (h0 : ¬ x < 0) (h1 : ¬ c ≤ x) : ∃ i, i < n ∧ x = nI i := by
  obtain ⟨i, hi, rfl⟩ := nI_of h0
  subst hc
  rw [nle hi hn] at h1
  exact ⟨i, by omega, rfl⟩
theorem mm_ext {M N : Mm} (h1 : M.1 = N.1) (h2 : ∀ a j, gi M a j = gi N a j) (h3 : ∀ a j, gl M a j = gl N a j) (h4 : ∀ a j, gr M a j = gr N a j) : M = N := by
  obtain ⟨M1, M2, M3, M4⟩ := M
  obtain ⟨N1, N2, N3, N4⟩ := N
  have e2 : M2 = N2 := funext fun a => funext fun j => h2 a j
  have e3 : M3 = N3 := funext fun a => funext fun j => h3 a j
  have e4 : M4 = N4 := funext fun a => funext fun j => h4 a j
  cases h1; cases e2; cases e3; cases e4; rfl
theorem gi_si (M : Mm) (a j b k : Nat) (v : Int32) : gi (si M a j v) b k = if b = a ∧ k = j then v else gi M b k := rfl
theorem gl_sl (M : Mm) (a j b k : Nat) (v : Int64) : gl (sl M a j v) b k = if b = a ∧ k = j then v else gl M b k := rfl
theorem gr_sr (M : Mm) (a j b k : Nat) (v : Option Nat) : gr (sr M a j v) b k = if b = a ∧ k = j then v else gr M b k := rfl
theorem si_same (M : Mm) (a j : Nat) (v : Int32) (h : gi M a j = v) : si M a j v = M := by
  refine mm_ext rfl (fun b k => ?_) (fun _ _ => rfl) (fun _ _ => rfl)
  rw [gi_si]
  by_cases hq : b = a ∧ k = j
  · rw [if_pos hq, hq.1, hq.2, h]
  · rw [if_neg hq]
/-- the first n places of a row are v -/
def fl (M : Mm) (a n : Nat) (v : Int32) : Mm := (M.1, (fun b k => if b = a ∧ k < n then v else gi M b k), M.2.2)
theorem gi_fl (M : Mm) (a n b k : Nat) (v : Int32) : gi (fl M a n v) b k = if b = a ∧ k < n then v else gi M b k := rfl
theorem fl_0 (M : Mm) (a : Nat) (v : Int32) : fl M a 0 v = M := by
  refine mm_ext rfl (fun b k => ?_) (fun _ _ => rfl) (fun _ _ => rfl)
  rw [gi_fl, if_neg (by omega)]
theorem fl_s (M : Mm) (a i : Nat) (v : Int32) : si (fl M a i v) a i v = fl M a (i + 1) v := by
  refine mm_ext rfl (fun b k => ?_) (fun _ _ => rfl) (fun _ _ => rfl)
  rw [gi_si, gi_fl, gi_fl]
  by_cases hb : b = a
  · subst hb
    by_cases hk : k = i
    · rw [if_pos ⟨rfl, hk⟩, if_pos ⟨rfl, by omega⟩]
    · rw [if_neg (fun h => hk h.2)]
      by_cases hk2 : k < i
      · rw [if_pos ⟨rfl, hk2⟩, if_pos ⟨rfl, by omega⟩]
      · rw [if_neg (fun h => hk2 h.2), if_neg (fun h => by omega)]
  · rw [if_neg (fun h => hb h.1), if_neg (fun h => hb h.1), if_neg (fun h => hb h.1)]
theorem sJr_fill {M : Mm} {a kk nn : Nat} {v : Int32} {K : Mm → Prop} (ka : a % 64 = kk) (hak : AK kk 0 nn) (hn : nn < 2 ^ 31) (h : K (fl M a nn v)) : CV mJr_fill [.ref a, .int v] M K := by
  refine call_of rfl (Nat.le_of_ble_eq_true rfl) rfl ?_
  refine vJr_fill_0 ka hak ?_
  have key := lp nn (P := fun i => X mJr_fill 5 [(0, .ref a), (1, .int v), (2, .int (nI i)), (3, .int (Int32.ofNat nn))] [] (fl M a i v) (mC mJr_fill, mS mJr_fill) (QV K)) (fun i hi ih => ?_) ?_
  · rw [fl_0] at key
    exact key
  · refine vJr_fill_5 ka hak ⟨fun q => absurd q (nge rfl hn hi), fun _ => ⟨vin hi hn, ?_⟩⟩
    rw [ncl (by omega), fl_s, nI_s]
    exact ih
  · exact vJr_fill_5 ka hak ⟨fun _ => h, fun q => absurd (nself rfl) q⟩
def bc32 (v0 : Int32) : Int32 := (((((((v0 - ((ushr v0 1) &&& 1431655765)) &&& 858993459) + ((ushr (v0 - ((ushr v0 1) &&& 1431655765)) 2) &&& 858993459)) + (ushr (((v0 - ((ushr v0 1) &&& 1431655765)) &&& 858993459) + ((ushr (v0 - ((ushr v0 1) &&& 1431655765)) 2) &&& 858993459)) 4)) &&& 252645135) + (ushr (((((v0 - ((ushr v0 1) &&& 1431655765)) &&& 858993459) + ((ushr (v0 - ((ushr v0 1) &&& 1431655765)) 2) &&& 858993459)) + (ushr (((v0 - ((ushr v0 1) &&& 1431655765)) &&& 858993459) + ((ushr (v0 - ((ushr v0 1) &&& 1431655765)) 2) &&& 858993459)) 4)) &&& 252645135) 8)) + (ushr ((((((v0 - ((ushr v0 1) &&& 1431655765)) &&& 858993459) + ((ushr (v0 - ((ushr v0 1) &&& 1431655765)) 2) &&& 858993459)) + (ushr (((v0 - ((ushr v0 1) &&& 1431655765)) &&& 858993459) + ((ushr (v0 - ((ushr v0 1) &&& 1431655765)) 2) &&& 858993459)) 4)) &&& 252645135) + (ushr (((((v0 - ((ushr v0 1) &&& 1431655765)) &&& 858993459) + ((ushr (v0 - ((ushr v0 1) &&& 1431655765)) 2) &&& 858993459)) + (ushr (((v0 - ((ushr v0 1) &&& 1431655765)) &&& 858993459) + ((ushr (v0 - ((ushr v0 1) &&& 1431655765)) 2) &&& 858993459)) 4)) &&& 252645135) 8)) 16)) &&& 63
def bc64 (v0 : Int64) : Int32 := (((((((((v0 - ((lushr v0 (1 : Int32)) &&& 6148914691236517205)) &&& 3689348814741910323) + ((lushr (v0 - ((lushr v0 (1 : Int32)) &&& 6148914691236517205)) (2 : Int32)) &&& 3689348814741910323)) + (lushr (((v0 - ((lushr v0 (1 : Int32)) &&& 6148914691236517205)) &&& 3689348814741910323) + ((lushr (v0 - ((lushr v0 (1 : Int32)) &&& 6148914691236517205)) (2 : Int32)) &&& 3689348814741910323)) (4 : Int32))) &&& 1085102592571150095) + (lushr (((((v0 - ((lushr v0 (1 : Int32)) &&& 6148914691236517205)) &&& 3689348814741910323) + ((lushr (v0 - ((lushr v0 (1 : Int32)) &&& 6148914691236517205)) (2 : Int32)) &&& 3689348814741910323)) + (lushr (((v0 - ((lushr v0 (1 : Int32)) &&& 6148914691236517205)) &&& 3689348814741910323) + ((lushr (v0 - ((lushr v0 (1 : Int32)) &&& 6148914691236517205)) (2 : Int32)) &&& 3689348814741910323)) (4 : Int32))) &&& 1085102592571150095) (8 : Int32))) + (lushr ((((((v0 - ((lushr v0 (1 : Int32)) &&& 6148914691236517205)) &&& 3689348814741910323) + ((lushr (v0 - ((lushr v0 (1 : Int32)) &&& 6148914691236517205)) (2 : Int32)) &&& 3689348814741910323)) + (lushr (((v0 - ((lushr v0 (1 : Int32)) &&& 6148914691236517205)) &&& 3689348814741910323) + ((lushr (v0 - ((lushr v0 (1 : Int32)) &&& 6148914691236517205)) (2 : Int32)) &&& 3689348814741910323)) (4 : Int32))) &&& 1085102592571150095) + (lushr (((((v0 - ((lushr v0 (1 : Int32)) &&& 6148914691236517205)) &&& 3689348814741910323) + ((lushr (v0 - ((lushr v0 (1 : Int32)) &&& 6148914691236517205)) (2 : Int32)) &&& 3689348814741910323)) + (lushr (((v0 - ((lushr v0 (1 : Int32)) &&& 6148914691236517205)) &&& 3689348814741910323) + ((lushr (v0 - ((lushr v0 (1 : Int32)) &&& 6148914691236517205)) (2 : Int32)) &&& 3689348814741910323)) (4 : Int32))) &&& 1085102592571150095) (8 : Int32))) (16 : Int32))) + (lushr (((((((v0 - ((lushr v0 (1 : Int32)) &&& 6148914691236517205)) &&& 3689348814741910323) + ((lushr (v0 - ((lushr v0 (1 : Int32)) &&& 6148914691236517205)) (2 : Int32)) &&& 3689348814741910323)) + (lushr (((v0 - ((lushr v0 (1 : Int32)) &&& 6148914691236517205)) &&& 3689348814741910323) + ((lushr (v0 - ((lushr v0 (1 : Int32)) &&& 6148914691236517205)) (2 : Int32)) &&& 3689348814741910323)) (4 : Int32))) &&& 1085102592571150095) + (lushr (((((v0 - ((lushr v0 (1 : Int32)) &&& 6148914691236517205)) &&& 3689348814741910323) + ((lushr (v0 - ((lushr v0 (1 : Int32)) &&& 6148914691236517205)) (2 : Int32)) &&& 3689348814741910323)) + (lushr (((v0 - ((lushr v0 (1 : Int32)) &&& 6148914691236517205)) &&& 3689348814741910323) + ((lushr (v0 - ((lushr v0 (1 : Int32)) &&& 6148914691236517205)) (2 : Int32)) &&& 3689348814741910323)) (4 : Int32))) &&& 1085102592571150095) (8 : Int32))) + (lushr ((((((v0 - ((lushr v0 (1 : Int32)) &&& 6148914691236517205)) &&& 3689348814741910323) + ((lushr (v0 - ((lushr v0 (1 : Int32)) &&& 6148914691236517205)) (2 : Int32)) &&& 3689348814741910323)) + (lushr (((v0 - ((lushr v0 (1 : Int32)) &&& 6148914691236517205)) &&& 3689348814741910323) + ((lushr (v0 - ((lushr v0 (1 : Int32)) &&& 6148914691236517205)) (2 : Int32)) &&& 3689348814741910323)) (4 : Int32))) &&& 1085102592571150095) + (lushr (((((v0 - ((lushr v0 (1 : Int32)) &&& 6148914691236517205)) &&& 3689348814741910323) + ((lushr (v0 - ((lushr v0 (1 : Int32)) &&& 6148914691236517205)) (2 : Int32)) &&& 3689348814741910323)) + (lushr (((v0 - ((lushr v0 (1 : Int32)) &&& 6148914691236517205)) &&& 3689348814741910323) + ((lushr (v0 - ((lushr v0 (1 : Int32)) &&& 6148914691236517205)) (2 : Int32)) &&& 3689348814741910323)) (4 : Int32))) &&& 1085102592571150095) (8 : Int32))) (16 : Int32))) (32 : Int32))).toInt32) &&& 127
/-! small methods, as their one stretch says them -/
theorem sC_holds {M : Mm} {v0 v1 : Int32} {K : Int32 → Mm → Prop} (h : K (if ((ushr v0 v1) &&& 1) = 1 then 1 else 0) M) : CI mC_holds [.int v0, .int v1] M K := call_of rfl (Nat.le_of_ble_eq_true rfl) rfl (vC_holds_0 h)
theorem sC_agreed {M : Mm} {v0 v1 : Int32} {K : Int32 → Mm → Prop} (h : K (if v1 = 0 then (if v0 = 0 then -4 else 1) else (if v0 = 0 then 0 else -4)) M) : CI mC_agreed [.int v0, .int v1] M K := by
  refine call_of rfl (Nat.le_of_ble_eq_true rfl) rfl (vC_agreed_0 ⟨fun q => ?_, fun q => ?_, fun q => ?_, fun q => ?_⟩)
  · rwa [if_neg q.1, if_neg q.2] at h
  · rwa [if_neg q.1, if_pos q.2] at h
  · rwa [if_pos q.1, if_neg q.2] at h
  · rwa [if_pos q.1, if_pos q.2] at h
theorem sRu_isMain {M : Mm} {v0 : Nat} {v1 : Int32} {K : Int32 → Mm → Prop} (k : v0 % 64 = 3) (h : K (if ((ushr (gi M v0 0) v1) &&& 1) = 1 then 1 else 0) M) : CI mRu_isMain [.ref v0, .int v1] M K := call_of rfl (Nat.le_of_ble_eq_true rfl) rfl (vRu_isMain_0 k h)
theorem sC_isCase {M : Mm} {v0 : Int32} {K : Int32 → Mm → Prop} (h1 : (v0 < 0 ∨ 64 ≤ v0) → K 0 M) (h2 : ∀ i, i < 64 → v0 = nI i → K 1 M) : CI mC_isCase [.int v0] M K := by
  refine call_of rfl (Nat.le_of_ble_eq_true rfl) rfl (vC_isCase_0 ⟨fun q => h1 (q.elim Or.inl (fun q => Or.inr q.2)), fun q => ?_⟩)
  obtain ⟨i, hi, e⟩ := rng (c := 64) (n := 64) rfl (by decide) q.1 q.2
  exact h2 i hi e
theorem sC_isDoctor {M : Mm} {v0 : Int32} {K : Int32 → Mm → Prop} (h1 : (v0 < 0 ∨ 8 ≤ v0) → K 0 M) (h2 : ∀ i, i < 8 → v0 = nI i → K 1 M) : CI mC_isDoctor [.int v0] M K := by
  refine call_of rfl (Nat.le_of_ble_eq_true rfl) rfl (vC_isDoctor_0 ⟨fun q => h1 (q.elim Or.inl (fun q => Or.inr q.2)), fun q => ?_⟩)
  obtain ⟨i, hi, e⟩ := rng (c := 8) (n := 8) rfl (by decide) q.1 q.2
  exact h2 i hi e
theorem sC_isSheet {M : Mm} {v0 : Int32} {K : Int32 → Mm → Prop} (h1 : (v0 < 0 ∨ 4 ≤ v0) → K 0 M) (h2 : ∀ i, i < 4 → v0 = nI i → K 1 M) : CI mC_isSheet [.int v0] M K := by
  refine call_of rfl (Nat.le_of_ble_eq_true rfl) rfl (vC_isSheet_0 ⟨fun q => h1 (q.elim Or.inl (fun q => Or.inr q.2)), fun q => ?_⟩)
  obtain ⟨i, hi, e⟩ := rng (c := 4) (n := 4) rfl (by decide) q.1 q.2
  exact h2 i hi e
theorem sC_isLane {M : Mm} {v0 : Int32} {K : Int32 → Mm → Prop} (h1 : (v0 < 0 ∨ 2 < v0) → K 0 M) (h2 : ¬ v0 < 0 → ¬ 2 < v0 → K 1 M) : CI mC_isLane [.int v0] M K :=
  call_of rfl (Nat.le_of_ble_eq_true rfl) rfl (vC_isLane_0 ⟨fun q => h1 (q.elim Or.inl (fun q => Or.inr q.2)), fun q => h2 q.1 q.2⟩)
theorem sC_isEither {M : Mm} {v0 : Int32} {K : Int32 → Mm → Prop} (h1 : ¬ v0 = 0 → ¬ v0 = 1 → K 0 M) (h2 : (v0 = 0 ∨ v0 = 1) → K 1 M) : CI mC_isEither [.int v0] M K :=
  call_of rfl (Nat.le_of_ble_eq_true rfl) rfl (vC_isEither_0 ⟨fun q => h2 (q.elim Or.inl (fun q => Or.inr q.2)), fun q => h1 q.1 q.2⟩)
theorem sJi_bitCount {M : Mm} {v0 : Int32} {K : Int32 → Mm → Prop} (h : ∀ r, r = bc32 v0 → K r M) : CI mJi_bitCount [.int v0] M K := call_of rfl (Nat.le_of_ble_eq_true rfl) rfl (vJi_bitCount_0 (h _ rfl))
theorem sJl_bitCount {M : Mm} {v0 : Int64} {K : Int32 → Mm → Prop} (h : ∀ r, r = bc64 v0 → K r M) : CI mJl_bitCount [.long v0] M K := call_of rfl (Nat.le_of_ble_eq_true rfl) rfl (vJl_bitCount_0 (h _ rfl))
end MG2
section MG3
/-! ===== a library without words ===== -/
def lrt : List (Nat × Nat) := [(0, 81), (2, 140), (3, 205), (4, 269), (5, 333), (6, 397), (7, 460), (8, 524), (9, 590), (14, 651), (15, 715)]
/-- how a library lies -/
def LR (M : Mm) (r : Nat) : Prop := r % 64 = 1 ∧ (∀ q ∈ lrt, gr M r q.1 = some (r + q.2)) ∧ ∀ w, w < 24 → gr M (r + 81) w = some (r + 776 + 64 * w)
theorem lr0 {M : Mm} {r : Nat} (h : LR M r) : gr M r 0 = some (r + 81) := h.2.1 (0, 81) (by decide)
theorem lr2 {M : Mm} {r : Nat} (h : LR M r) : gr M r 2 = some (r + 140) := h.2.1 (2, 140) (by decide)
theorem lr3 {M : Mm} {r : Nat} (h : LR M r) : gr M r 3 = some (r + 205) := h.2.1 (3, 205) (by decide)
theorem lr4 {M : Mm} {r : Nat} (h : LR M r) : gr M r 4 = some (r + 269) := h.2.1 (4, 269) (by decide)
theorem lr5 {M : Mm} {r : Nat} (h : LR M r) : gr M r 5 = some (r + 333) := h.2.1 (5, 333) (by decide)
theorem lr6 {M : Mm} {r : Nat} (h : LR M r) : gr M r 6 = some (r + 397) := h.2.1 (6, 397) (by decide)
theorem lr7 {M : Mm} {r : Nat} (h : LR M r) : gr M r 7 = some (r + 460) := h.2.1 (7, 460) (by decide)
theorem lr8 {M : Mm} {r : Nat} (h : LR M r) : gr M r 8 = some (r + 524) := h.2.1 (8, 524) (by decide)
theorem lr9 {M : Mm} {r : Nat} (h : LR M r) : gr M r 9 = some (r + 590) := h.2.1 (9, 590) (by decide)
theorem lr14 {M : Mm} {r : Nat} (h : LR M r) : gr M r 14 = some (r + 651) := h.2.1 (14, 651) (by decide)
theorem lr15 {M : Mm} {r : Nat} (h : LR M r) : gr M r 15 = some (r + 715) := h.2.1 (15, 715) (by decide)
theorem lrk {M : Mm} {r : Nat} (h : LR M r) (o k : Nat) (ho : o % 64 + 1 = k) (hk : k < 64) : (r + o) % 64 = k := by have := h.1; omega
theorem giR (M : Mm) (a j b k : Nat) (v : Int32) (h : b ≠ a) : gi (si M a j v) b k = gi M b k := by rw [gi_si, if_neg (fun q => h q.1)]
theorem flR (M : Mm) (a n b k : Nat) (v : Int32) (h : b ≠ a) : gi (fl M a n v) b k = gi M b k := by rw [gi_fl, if_neg (fun q => h q.1)]
theorem sLi_clear {M : Mm} {r : Nat} {K : Mm → Prop} (hl : LR M r) (h : K (fl (si M r 1 0) (r + 140) 8 2)) : CV mLi_clear [.ref r] M K := by
  refine call_of rfl (Nat.le_of_ble_eq_true rfl) rfl ?_
  refine vLi_clear_0 hl.1 (lr2 hl) ?_
  refine sJr_fill (lrk hl 140 13 rfl (by decide)) ak_13 (by decide) ?_
  exact vLi_clear_13 h
def sw0 (M : Mm) (r : Nat) : Mm := si (si (fl (fl M (r + 460) 8 0) (r + 524) 8 0) r 10 0) r 11 0
theorem sLi_sortWords0 {M : Mm} {r : Nat} {K : Mm → Prop} (hl : LR M r) (hz : gi M r 1 = 0) (h : K (sw0 M r)) : CV mLi_sortWords [.ref r] M K := by
  refine call_of rfl (Nat.le_of_ble_eq_true rfl) rfl ?_
  refine vLi_sortWords_0 hl.1 (lr7 hl) ?_
  refine sJr_fill (lrk hl 460 13 rfl (by decide)) ak_13 (by decide) ?_
  refine vLi_sortWords_8 hl.1 (lr8 hl) ?_
  refine sJr_fill (lrk hl 524 13 rfl (by decide)) ak_13 (by decide) ?_
  refine vLi_sortWords_16 hl.1 ?_
  have e : gi (sw0 M r) r 1 = 0 := by
    unfold sw0
    rw [gi_si, if_neg (by simp), gi_si, if_neg (by simp), flR _ _ _ _ _ _ (by omega), flR _ _ _ _ _ _ (by omega)]
    exact hz
  refine vLi_sortWords_28 hl.1 (lr0 hl) (lr8 hl) (lr7 hl) ⟨fun _ => h, fun q => ?_⟩
  exact absurd (show gi (sw0 M r) r 1 ≤ 0 by rw [e]; exact Int32.le_refl _) q
theorem sLi_findFollowed0 {M : Mm} {r : Nat} {K : Mm → Prop} (hl : LR M r) (hz : gi M r 1 = 0) (h : K M) : CV mLi_findFollowed [.ref r] M K := by
  refine call_of rfl (Nat.le_of_ble_eq_true rfl) rfl ?_
  refine vLi_findFollowed_0 ?_
  exact vLi_findFollowed_2 hl.1 (lr0 hl) (lr14 hl) (lr7 hl) ⟨fun _ => h, fun q => absurd (by rw [hz]; exact Int32.le_refl _) q⟩
def fr0 (M : Mm) (r : Nat) : Mm := si (si M r 12 0) r 13 0
theorem sLi_findRings0 {M : Mm} {r : Nat} {K : Mm → Prop} (hl : LR M r) (hz : gi M r 1 = 0) (h : K (fr0 M r)) : CV mLi_findRings [.ref r] M K := by
  refine call_of rfl (Nat.le_of_ble_eq_true rfl) rfl ?_
  refine vLi_findRings_0 ?_
  refine vLi_findRings_2 hl.1 ⟨fun _ => ?_, fun q => absurd (by rw [hz]; exact Int32.le_refl _) q⟩
  have e1 : gi (si M r 12 0) r 1 ≤ 0 := by rw [gi_si, if_neg (by simp), hz]; exact Int32.le_refl _
  have e2 : gi (si M r 12 0) r 12 = 0 := by rw [gi_si, if_pos ⟨rfl, rfl⟩]
  refine vLi_findRings_67 hl.1 (lr15 hl) ⟨fun q => absurd e1 q, fun _ => ?_, fun q => absurd e1 q⟩
  rw [e2]
  have e3 : gi (fr0 M r) r 1 ≤ 0 := by unfold fr0; rw [gi_si, if_neg (by simp)]; exact e1
  exact vLi_findRings_110 hl.1 (lr15 hl) ⟨fun q => absurd e3 q, fun _ => h, fun q => absurd e3 q.1, fun q => absurd e3 q.1⟩
def so0 (M : Mm) (r : Nat) : Mm := fl (fl M (r + 205) 64 0) (r + 269) 64 0
theorem sLi_speakInOrder0 {M : Mm} {r : Nat} {K : Mm → Prop} (hl : LR M r) (hz : gi M r 1 = 0) (h : K (so0 M r)) : CV mLi_speakInOrder [.ref r] M K := by
  refine call_of rfl (Nat.le_of_ble_eq_true rfl) rfl ?_
  refine vLi_speakInOrder_0 hl.1 (lr3 hl) ?_
  refine sJr_fill (lrk hl 205 14 rfl (by decide)) ak_14 (by decide) ?_
  refine vLi_speakInOrder_8 hl.1 (lr4 hl) ?_
  refine sJr_fill (lrk hl 269 14 rfl (by decide)) ak_14 (by decide) ?_
  have e : gi (so0 M r) r 1 ≤ 0 := by unfold so0; rw [flR _ _ _ _ _ _ (by omega), flR _ _ _ _ _ _ (by omega), hz]; exact Int32.le_refl _
  refine vLi_speakInOrder_16 hl.1 ?_
  refine vLi_speakInOrder_23 hl.1 ⟨fun _ => ?_, fun q => absurd e q⟩
  exact vLi_speakInOrder_87 hl.1 ⟨fun _ => h, fun q => absurd e q⟩
theorem sLi_weighAll0 {M : Mm} {r : Nat} {K : Mm → Prop} (hl : LR M r) (hz : gi M r 1 = 0) (h : K (fl M (r + 590) 7 0)) : CV mLi_weighAll [.ref r] M K := by
  refine call_of rfl (Nat.le_of_ble_eq_true rfl) rfl ?_
  refine vLi_weighAll_0 hl.1 (lr9 hl) ?_
  refine sJr_fill (lrk hl 590 15 rfl (by decide)) ak_15 (by decide) ?_
  refine vLi_weighAll_8 ?_
  exact vLi_weighAll_10 hl.1 ⟨fun _ => h, fun q => absurd (by rw [flR _ _ _ _ _ _ (by omega), hz]; exact Int32.le_refl _) q⟩
theorem sLi_speaking {M : Mm} {r i : Nat} {K : Int32 → Mm → Prop} (hl : LR M r) (hi : i < 64) (h : K (gi M (r + 205) i ||| gi M (r + 269) i) M) : CI mLi_speaking [.ref r, .int (nI i)] M K := by
  refine call_of rfl (Nat.le_of_ble_eq_true rfl) rfl ?_
  refine vLi_speaking_0 hl.1 (lr3 hl) (lr4 hl) ⟨vin hi (by decide), vin hi (by decide), ?_⟩
  rw [ncl (by omega)]
  exact h
theorem sLi_lawSaying0 {M : Mm} {r i : Nat} {v : Int32} {K : Int32 → Mm → Prop} (hl : LR M r) (hz : gi M r 1 = 0) (hi : i < 64) (h : K (-4) M) : CI mLi_lawSaying [.ref r, .int (nI i), .int v] M K := by
  refine call_of rfl (Nat.le_of_ble_eq_true rfl) rfl ?_
  refine vLi_lawSaying_0 hl.1 ?_
  refine sLi_speaking hl hi ?_
  refine vLi_lawSaying_5 hl.1 ?_
  have e : gi M r 1 ≤ 0 := by rw [hz]; exact Int32.le_refl _
  refine vLi_lawSaying_21 hl.1 (lr3 hl) (lr4 hl) ⟨fun _ => ⟨vin hi (by decide), vin hi (by decide), ?_⟩, fun q => absurd e q.1⟩
  refine sC_agreed ?_
  refine vLi_lawSaying_135 ?_
  rw [Int32.and_zero, Int32.and_zero]
  exact h
def al0 (M : Mm) (r i : Nat) : Mm := fl (fl M (r + 333) i (-4)) (r + 397) i (-4)
theorem al0_s (M : Mm) (r i : Nat) : si (si (al0 M r i) (r + 333) i (-4)) (r + 397) i (-4) = al0 M r (i + 1) := by
  refine mm_ext rfl (fun b k => ?_) (fun _ _ => rfl) (fun _ _ => rfl)
  unfold al0
  simp only [gi_si, gi_fl]
  by_cases h1 : b = r + 397 <;> by_cases h2 : b = r + 333 <;> by_cases h3 : k = i <;> by_cases h4 : k < i <;> simp [h1, h2, h3, h4] <;> omega
theorem sLi_askLaws0 {M : Mm} {r : Nat} {K : Mm → Prop} (hl : LR M r) (hz : gi M r 1 = 0) (h : K (al0 M r 64)) : CV mLi_askLaws [.ref r] M K := by
  refine call_of rfl (Nat.le_of_ble_eq_true rfl) rfl ?_
  refine vLi_askLaws_0 ?_
  have key := lp 64 (P := fun i => X mLi_askLaws 2 [(0, .ref r), (1, .int (nI i))] [] (al0 M r i) (mC mLi_askLaws, mS mLi_askLaws) (QV K)) (fun i hi ih => ?_) ?_
  · rw [al0, fl_0, fl_0] at key
    exact key
  · have e : gi (al0 M r i) r 1 = 0 := by unfold al0; rw [flR _ _ _ _ _ _ (by omega), flR _ _ _ _ _ _ (by omega), hz]
    refine vLi_askLaws_2 hl.1 (lr5 hl) ⟨fun q => absurd q (nge rfl (by decide) hi), fun _ => ?_⟩
    refine sLi_lawSaying0 hl e hi ?_
    refine vLi_askLaws_19 (lrk hl 333 14 rfl (by decide)) hl.1 (lr6 hl) ⟨vin hi (by decide), ?_⟩
    refine sLi_lawSaying0 hl (by rw [giR _ _ _ _ _ _ (by omega)]; exact e) hi ?_
    refine vLi_askLaws_31 (lrk hl 397 14 rfl (by decide)) ⟨vin hi (by decide), ?_⟩
    rw [ncl (by omega), al0_s, nI_s]
    exact ih
  · exact vLi_askLaws_2 hl.1 (lr5 hl) ⟨fun _ => h, fun q => absurd (nself rfl) q⟩
/-- a library without words, settled -/
def st0 (M : Mm) (r : Nat) : Mm := al0 (fl (so0 (fr0 (sw0 M r) r) r) (r + 590) 7 0) r 64
theorem sLi_settle0 {M : Mm} {r : Nat} {K : Mm → Prop} (hl : LR M r) (hz : gi M r 1 = 0) (h : K (st0 M r)) : CV mLi_settle [.ref r] M K := by
  have e1 : gi (sw0 M r) r 1 = 0 := by unfold sw0; rw [gi_si, if_neg (by simp), gi_si, if_neg (by simp), flR _ _ _ _ _ _ (by omega), flR _ _ _ _ _ _ (by omega), hz]
  have e2 : gi (fr0 (sw0 M r) r) r 1 = 0 := by unfold fr0; rw [gi_si, if_neg (by simp), gi_si, if_neg (by simp), e1]
  have e3 : gi (so0 (fr0 (sw0 M r) r) r) r 1 = 0 := by unfold so0; rw [flR _ _ _ _ _ _ (by omega), flR _ _ _ _ _ _ (by omega), e2]
  refine call_of rfl (Nat.le_of_ble_eq_true rfl) rfl ?_
  refine vLi_settle_0 hl.1 (sLi_sortWords0 hl hz ?_)
  refine vLi_settle_4 hl.1 (sLi_findFollowed0 hl e1 ?_)
  refine vLi_settle_8 hl.1 (sLi_findRings0 hl e1 ?_)
  refine vLi_settle_12 hl.1 (sLi_speakInOrder0 hl e2 ?_)
  refine vLi_settle_16 hl.1 (sLi_weighAll0 hl e3 ?_)
  refine vLi_settle_20 hl.1 (sLi_askLaws0 hl (by rw [flR _ _ _ _ _ _ (by omega), e3]) ?_)
  exact vLi_settle_24 h
end MG3
section MG4
/-! ===== a memory told by lists: rows of numbers (address, from, to, number), references (address, place, to) ===== -/
def LK : List (Nat × Nat × Nat × Int32) → Nat → Nat → Int32
  | [], _, _ => 0
  | q :: L, a, j => if a = q.1 ∧ (q.2.1 ≤ j ∧ j < q.2.2.1) then q.2.2.2 else LK L a j
def GK : List (Nat × Nat × Nat) → Nat → Nat → Option Nat
  | [], _, _ => none
  | q :: L, a, j => if a = q.1 ∧ j = q.2.1 then some q.2.2 else GK L a j
def mem (sh : List Nat) (n : Nat) (xs : Nat → Int32) (I : List (Nat × Nat × Nat × Int32)) (G : List (Nat × Nat × Nat)) : Mm := ((sh, n), (fun a j => if a = 62 then xs j else LK I a j), (fun _ _ => 0), GK G)
theorem LK_no {I : List (Nat × Nat × Nat × Int32)} {a : Nat} (h : I.all (fun q => !(q.1 == a)) = true) (j : Nat) : LK I a j = 0 := by
  induction I with
  | nil => rfl
  | cons q L ih =>
    rw [List.all_cons, Bool.and_eq_true] at h
    rw [LK, if_neg, ih h.2]
    intro e
    have := h.1
    simp [e.1] at this
theorem GK_no {G : List (Nat × Nat × Nat)} {a : Nat} (h : G.all (fun q => !(q.1 == a)) = true) (j : Nat) : GK G a j = none := by
  induction G with
  | nil => rfl
  | cons q L ih =>
    rw [List.all_cons, Bool.and_eq_true] at h
    rw [GK, if_neg, ih h.2]
    intro e
    have := h.1
    simp [e.1] at this
theorem LK_f (I : List (Nat × Nat × Nat × Int32)) (a j : Nat) : LK I a j = LK (I.filter (fun q => q.1 == a)) a j := by
  induction I with
  | nil => rfl
  | cons q L ih =>
    by_cases h : q.1 = a
    · rw [List.filter_cons_of_pos (by simp [h]), LK, LK, ih]
    · rw [List.filter_cons_of_neg (by simp [h]), LK, if_neg (fun e => h e.1.symm), ih]
section MEM
variable {sh : List Nat} {n : Nat} {xs : Nat → Int32} {I : List (Nat × Nat × Nat × Int32)} {G : List (Nat × Nat × Nat)}
theorem mem_nw {k : Nat} (adr : Nat) (h1 : 64 * sh.length + k = adr) (h2 : (adr == 62) = false) (h3 : I.all (fun q => !(q.1 == adr)) = true) (h4 : G.all (fun q => !(q.1 == adr)) = true) : nw (mem sh n xs I G) k = mem (sh ++ [k]) n xs I G := by
  subst h1
  refine mm_ext rfl (fun a j => ?_) (fun a j => ?_) (fun a j => ?_)
  · show (if a = 64 * sh.length + k then 0 else gi (mem sh n xs I G) a j) = _
    by_cases e : a = 64 * sh.length + k
    · subst e
      rw [if_pos rfl]
      show 0 = (if 64 * sh.length + k = 62 then xs j else LK I _ j)
      rw [if_neg (by simpa using h2), LK_no h3]
    · rw [if_neg e]; rfl
  · show (if a = 64 * sh.length + k then 0 else gl (mem sh n xs I G) a j) = _
    split <;> rfl
  · show (if a = 64 * sh.length + k then none else gr (mem sh n xs I G) a j) = _
    by_cases e : a = 64 * sh.length + k
    · subst e
      rw [if_pos rfl]
      exact (GK_no h4 j).symm
    · rw [if_neg e]; rfl
theorem mem_si {a j : Nat} {v : Int32} (h : (a == 62) = false) : si (mem sh n xs I G) a j v = mem sh n xs ((a, j, j + 1, v) :: I) G := by
  refine mm_ext rfl (fun b k => ?_) (fun _ _ => rfl) (fun _ _ => rfl)
  have h : a ≠ 62 := by simpa using h
  rw [gi_si]
  show _ = if b = 62 then xs k else LK ((a, j, j + 1, v) :: I) b k
  rw [LK]
  by_cases e : b = a ∧ k = j
  · rw [if_pos e, if_neg (by omega), if_pos ⟨e.1, by simp only; omega⟩]
  · rw [if_neg e]
    show (if b = 62 then xs k else LK I b k) = _
    by_cases e2 : b = 62
    · rw [if_pos e2, if_pos e2]
    · rw [if_neg e2, if_neg e2, if_neg (fun q => e ⟨q.1, by have := q.2; simp only at this; omega⟩)]
theorem mem_fl {a m : Nat} {v : Int32} (h : (a == 62) = false) : fl (mem sh n xs I G) a m v = mem sh n xs ((a, 0, m, v) :: I) G := by
  refine mm_ext rfl (fun b k => ?_) (fun _ _ => rfl) (fun _ _ => rfl)
  have h : a ≠ 62 := by simpa using h
  rw [gi_fl]
  show _ = if b = 62 then xs k else LK ((a, 0, m, v) :: I) b k
  rw [LK]
  by_cases e : b = a ∧ k < m
  · rw [if_pos e, if_neg (by omega), if_pos ⟨e.1, by simp only; omega⟩]
  · rw [if_neg e]
    show (if b = 62 then xs k else LK I b k) = _
    by_cases e2 : b = 62
    · rw [if_pos e2, if_pos e2]
    · rw [if_neg e2, if_neg e2, if_neg (fun q => e ⟨q.1, by have := q.2; simp only at this; omega⟩)]
theorem mem_sr {a j r : Nat} : sr (mem sh n xs I G) a j (some r) = mem sh n xs I ((a, j, r) :: G) := by
  refine mm_ext rfl (fun _ _ => rfl) (fun _ _ => rfl) (fun b k => ?_)
  rw [gr_sr]
  show _ = GK ((a, j, r) :: G) b k
  rw [GK]
  rfl
theorem mem_gr {a j : Nat} {r : Nat} (h : GK G a j = some r) : gr (mem sh n xs I G) a j = some r := h
theorem mem_gi {a j : Nat} (h : (a == 62) = false) : gi (mem sh n xs I G) a j = LK I a j := if_neg (by simpa using h)
theorem mem_lr {r : Nat} (h1 : r % 64 = 1) (h2 : ∀ q ∈ lrt, GK G r q.1 = some (r + q.2)) (h3 : ∀ w, w < 24 → GK G (r + 81) w = some (r + 776 + 64 * w)) : LR (mem sh n xs I G) r := ⟨h1, h2, h3⟩
end MEM
/-! rows -/
def rwm (M : Mm) (a n : Nat) (f : Nat → Int32) : Mm := (M.1, (fun b k => if b = a ∧ k < n then f k else gi M b k), M.2.2)
theorem gi_rwm (M : Mm) (a n b k : Nat) (f : Nat → Int32) : gi (rwm M a n f) b k = if b = a ∧ k < n then f k else gi M b k := rfl
theorem rwm_0 (M : Mm) (a : Nat) (f : Nat → Int32) : rwm M a 0 f = M := by
  refine mm_ext rfl (fun b k => ?_) (fun _ _ => rfl) (fun _ _ => rfl)
  rw [gi_rwm, if_neg (by omega)]
theorem rwm_s (M : Mm) (a i : Nat) (f : Nat → Int32) : si (rwm M a i f) a i (f i) = rwm M a (i + 1) f := by
  refine mm_ext rfl (fun b k => ?_) (fun _ _ => rfl) (fun _ _ => rfl)
  rw [gi_si, gi_rwm, gi_rwm]
  by_cases hb : b = a
  · subst hb
    by_cases hk : k = i
    · rw [if_pos ⟨rfl, hk⟩, if_pos ⟨rfl, by omega⟩, hk]
    · rw [if_neg (fun h => hk h.2)]
      by_cases hk2 : k < i
      · rw [if_pos ⟨rfl, hk2⟩, if_pos ⟨rfl, by omega⟩]
      · rw [if_neg (fun h => hk2 h.2), if_neg (fun h => by omega)]
  · rw [if_neg (fun h => hb h.1), if_neg (fun h => hb h.1), if_neg (fun h => hb h.1)]
theorem rwm_c (M : Mm) (a n : Nat) (f : Nat → Int32) (v : Int32) (h : ∀ k, k < n → f k = v) : rwm M a n f = fl M a n v := by
  refine mm_ext rfl (fun b k => ?_) (fun _ _ => rfl) (fun _ _ => rfl)
  rw [gi_rwm, gi_fl]
  by_cases e : b = a ∧ k < n
  · rw [if_pos e, if_pos e, h k e.2]
  · rw [if_neg e, if_neg e]
theorem rwmR (M : Mm) (a n b k : Nat) (f : Nat → Int32) (h : b ≠ a) : gi (rwm M a n f) b k = gi M b k := by rw [gi_rwm, if_neg (fun q => h q.1)]
/-! constructors -/
theorem sTa_init {M : Mm} {r : Nat} {K : Mm → Prop} (k : r % 64 = 6) (h : K (sr (nw M 17) r 0 (some (64 * M.1.1.length + 17)))) : CV mTa_init [.ref r] M K :=
  call_of rfl (Nat.le_of_ble_eq_true rfl) rfl (vTa_init_0 (vTa_init_4 (b' := (0, 0)) (by decide) k (vTa_init_13 h)))
theorem sTo_init {M : Mm} {r q : Nat} {K : Mm → Prop} (k : r % 64 = 7) (k2 : q % 64 = 6) (h : K (sr M r 0 (some q))) : CV mTo_init [.ref r, .ref q] M K :=
  call_of rfl (Nat.le_of_ble_eq_true rfl) rfl (vTo_init_0 (vTo_init_4 k k2 (vTo_init_9 h)))
theorem sLr_init {M : Mm} {r q : Nat} {K : Mm → Prop} (k : r % 64 = 2) (k2 : q % 64 = 7) (h : K (sr M r 0 (some q))) : CV mLr_init [.ref r, .ref q] M K :=
  call_of rfl (Nat.le_of_ble_eq_true rfl) rfl (vLr_init_0 (vLr_init_4 k k2 (vLr_init_9 h)))
theorem sRr_init {M : Mm} {r q : Nat} {K : Mm → Prop} (k : r % 64 = 4) (k2 : q % 64 = 7) (h : K (sr M r 0 (some q))) : CV mRr_init [.ref r, .ref q] M K :=
  call_of rfl (Nat.le_of_ble_eq_true rfl) rfl (vRr_init_0 (vRr_init_4 k k2 (vRr_init_9 h)))
theorem sWo_init {M : Mm} {r : Nat} {K : Mm → Prop} (h : K M) : CV mWo_init [.ref r] M K :=
  call_of rfl (Nat.le_of_ble_eq_true rfl) rfl (vWo_init_0 (vWo_init_4 h))
theorem sRu_clear {M : Mm} {r : Nat} {K : Mm → Prop} (k : r % 64 = 3) (h : K (si (si (si (si (si (si (si M r 0 31) r 1 2) r 2 0) r 3 0) r 4 (-4)) r 5 (-4)) r 6 1)) : CV mRu_clear [.ref r] M K :=
  call_of rfl (Nat.le_of_ble_eq_true rfl) rfl (vRu_clear_0 k h)
theorem sRu_init {M : Mm} {r : Nat} {K : Mm → Prop} (k : r % 64 = 3) (h : K (si (si (si (si (si (si (si M r 0 31) r 1 2) r 2 0) r 3 0) r 4 (-4)) r 5 (-4)) r 6 1)) : CV mRu_init [.ref r] M K :=
  call_of rfl (Nat.le_of_ble_eq_true rfl) rfl (vRu_init_0 (vRu_init_4 k (sRu_clear k (vRu_init_8 h))))
theorem sWe_init {M : Mm} {r q1 q2 : Nat} {K : Mm → Prop} (k : r % 64 = 8) (k1 : q1 % 64 = 1) (k2 : q2 % 64 = 3) (h : K (sr (sr (sr (nw M 13) r 3 (some (64 * M.1.1.length + 13))) r 0 (some q1)) r 1 (some q2))) : CV mWe_init [.ref r, .ref q1, .ref q2] M K :=
  call_of rfl (Nat.le_of_ble_eq_true rfl) rfl (vWe_init_0 (vWe_init_4 (b' := (0, 0)) (by decide) k (vWe_init_12 k k1 (vWe_init_17 k k2 (vWe_init_22 h)))))
theorem sFi_init {M : Mm} {r q1 : Nat} {K : Mm → Prop} (k : r % 64 = 0) (k1 : q1 % 64 = 8) (h : K (sr (sr (nw M 16) r 1 (some (64 * M.1.1.length + 16))) r 0 (some q1))) : CV mFi_init [.ref r, .ref q1] M K :=
  call_of rfl (Nat.le_of_ble_eq_true rfl) rfl (vFi_init_0 (vFi_init_4 (b' := (0, 0)) (by decide) k (vFi_init_13 k k1 (vFi_init_18 h))))
theorem sSh_init {M : Mm} {r : Nat} {K : Mm → Prop} (k : r % 64 = 5) (h : K (si (sr (nw M 20) r 0 (some (64 * M.1.1.length + 20))) r 1 (-4))) : CV mSh_init [.ref r] M K :=
  call_of rfl (Nat.le_of_ble_eq_true rfl) rfl (vSh_init_0 (vSh_init_4 (b' := (0, 0)) (by decide) k (vSh_init_12 k h)))
end MG4
section MG5
theorem vLi_end95 {M : Mm} {b : Nat × Nat} {K : Mm → Prop} {v0 : Nat} {v1 : Int32} (kv0 : v0 % 64 = 1) (hv : 24 ≤ v1) (h : CV mLi_clear [.ref v0] M (fun N => X mLi_init 124 [(0, .ref v0)] [] N b (QV K))) : X mLi_init 95 [(0, .ref v0), (1, .int v1)] [] M b (QV K) := by
  refine x_iload_n (pc := 95) dLi_init_95 rfl (q := 1) rfl ?_
  refine x_bipush (pc := 96) dLi_init_96 (v := 24) rfl ?_
  refine x_icmp_ge (pc := 98) dLi_init_98 (t := 120) rfl (fun q1 => ?_) (fun q1 => absurd hv q1)
  refine x_aload_n (pc := 120) dLi_init_120 rfl (q := 0) rfl ?_
  exact x_invV (pc := 121) dLi_init_121 (c := 1) (S := []) (As := []) mlLi_49 hLi_clear rfl (by decide) rfl kv0 ⟨by decide, by decide⟩ ⟨Nat.zero_le _, Nat.zero_le _⟩ rfl (Nat.le_of_ble_eq_true rfl) (aftV (b' := b) ⟨Nat.le_refl _, Nat.le_refl _⟩ (fun N h => x_loc [0] rfl h) h)
theorem mem_len {sh : List Nat} {n : Nat} {xs : Nat → Int32} {I : List (Nat × Nat × Nat × Int32)} {G : List (Nat × Nat × Nat)} {m : Nat} (hs : sh.length = m) (k adr : Nat) (h : 64 * m + k = adr) : 64 * (mem sh n xs I G).1.1.length + k = adr := by
  subst hs; exact h
theorem mem_nwl {sh : List Nat} {n : Nat} {xs : Nat → Int32} {I : List (Nat × Nat × Nat × Int32)} {G : List (Nat × Nat × Nat)} {m : Nat} (hs : sh.length = m) (k adr : Nat) (h : 64 * m + k = adr) (h2 : (adr == 62) = false) (h3 : I.all (fun q => !(q.1 == adr)) = true) (h4 : G.all (fun q => !(q.1 == adr)) = true) : nw (mem sh n xs I G) k = mem (sh ++ [k]) n xs I G := mem_nw adr (by rw [hs]; exact h) h2 h3 h4
theorem mem_new {sh : List Nat} {n : Nat} {xs : Nat → Int32} {I : List (Nat × Nat × Nat × Int32)} {G : List (Nat × Nat × Nat)} {m a j : Nat} (hs : sh.length = m) (k adr : Nat) (h : 64 * m + k = adr) (h2 : (adr == 62) = false) (h3 : I.all (fun q => !(q.1 == adr)) = true) (h4 : G.all (fun q => !(q.1 == adr)) = true) : sr (nw (mem sh n xs I G) k) a j (some (64 * (mem sh n xs I G).1.1.length + k)) = mem (sh ++ [k]) n xs I ((a, j, adr) :: G) := by
  rw [mem_len hs k adr h, mem_nwl hs k adr h h2 h3 h4, mem_sr]
theorem ap_len {sh : List Nat} {m : Nat} (hs : sh.length = m) (k : Nat) : (sh ++ [k]).length = m + 1 := by rw [List.length_append, hs]; rfl
def laI0 : List (Nat × Nat × Nat × Int32) := []
def laG0 : List (Nat × Nat × Nat) := [(10, 3, 324), (324, 0, 199), (10, 2, 258), (258, 0, 199), (10, 1, 199), (199, 0, 70), (10, 0, 70), (70, 0, 145)]
def laG1 : List (Nat × Nat × Nat) := [(466, 23, 2633), (466, 22, 2569), (466, 21, 2505), (466, 20, 2441), (466, 19, 2377), (466, 18, 2313), (466, 17, 2249), (466, 16, 2185), (466, 15, 2121), (466, 14, 2057), (466, 13, 1993), (466, 12, 1929), (466, 11, 1865), (466, 10, 1801), (466, 9, 1737), (466, 8, 1673), (466, 7, 1609), (466, 6, 1545), (466, 5, 1481), (466, 4, 1417), (466, 3, 1353), (466, 2, 1289), (466, 1, 1225), (466, 0, 1161), (385, 15, 1100), (385, 14, 1036), (385, 9, 975), (385, 8, 909), (385, 7, 845), (385, 6, 782), (385, 5, 718), (385, 4, 654), (385, 3, 590), (385, 2, 525), (385, 0, 466), (10, 3, 324), (324, 0, 199), (10, 2, 258), (258, 0, 199), (10, 1, 199), (199, 0, 70), (10, 0, 70), (70, 0, 145)]
def laI1 : List (Nat × Nat × Nat × Int32) := [(782, 0, 64, -4), (718, 0, 64, -4), (975, 0, 7, 0), (654, 0, 64, 0), (590, 0, 64, 0), (385, 13, 14, 0), (385, 12, 13, 0), (385, 11, 12, 0), (385, 10, 11, 0), (909, 0, 8, 0), (845, 0, 8, 0), (525, 0, 8, 2), (385, 1, 2, 0)]
set_option maxRecDepth 20000 in
theorem sLi_init_A {sh : List Nat} {n : Nat} {xs : Nat → Int32} {K : Mm → Prop} (hs : sh.length = 7) (h : ∀ sh : List Nat, sh.length = 42 → K (mem sh n xs laI1 laG1)) : CV mLi_init [.ref 385] (mem sh n xs laI0 laG0) K := by
  refine call_of rfl (Nat.le_of_ble_eq_true rfl) rfl ?_
  refine vLi_init_0 ?_
  refine vLi_init_4 (b' := (34, 599)) (by decide) rfl ?_
  rw [mem_new hs 18 466 rfl rfl (by decide +kernel) (by decide +kernel)]
  replace hs := ap_len hs 18
  generalize sh ++ [18] = sh at hs ⊢
  refine vLi_init_13 (b' := (33, 591)) (by decide) rfl ?_
  rw [mem_new hs 13 525 rfl rfl (by decide +kernel) (by decide +kernel)]
  replace hs := ap_len hs 13
  generalize sh ++ [13] = sh at hs ⊢
  refine vLi_init_21 (b' := (32, 527)) (by decide) rfl ?_
  rw [mem_new hs 14 590 rfl rfl (by decide +kernel) (by decide +kernel)]
  replace hs := ap_len hs 14
  generalize sh ++ [14] = sh at hs ⊢
  refine vLi_init_29 (b' := (31, 463)) (by decide) rfl ?_
  rw [mem_new hs 14 654 rfl rfl (by decide +kernel) (by decide +kernel)]
  replace hs := ap_len hs 14
  generalize sh ++ [14] = sh at hs ⊢
  refine vLi_init_37 (b' := (30, 399)) (by decide) rfl ?_
  rw [mem_new hs 14 718 rfl rfl (by decide +kernel) (by decide +kernel)]
  replace hs := ap_len hs 14
  generalize sh ++ [14] = sh at hs ⊢
  refine vLi_init_45 (b' := (29, 335)) (by decide) rfl ?_
  rw [mem_new hs 14 782 rfl rfl (by decide +kernel) (by decide +kernel)]
  replace hs := ap_len hs 14
  generalize sh ++ [14] = sh at hs ⊢
  refine vLi_init_53 (b' := (28, 327)) (by decide) rfl ?_
  rw [mem_new hs 13 845 rfl rfl (by decide +kernel) (by decide +kernel)]
  replace hs := ap_len hs 13
  generalize sh ++ [13] = sh at hs ⊢
  refine vLi_init_61 (b' := (27, 319)) (by decide) rfl ?_
  rw [mem_new hs 13 909 rfl rfl (by decide +kernel) (by decide +kernel)]
  replace hs := ap_len hs 13
  generalize sh ++ [13] = sh at hs ⊢
  refine vLi_init_69 (b' := (26, 312)) (by decide) rfl ?_
  rw [mem_new hs 15 975 rfl rfl (by decide +kernel) (by decide +kernel)]
  replace hs := ap_len hs 15
  generalize sh ++ [15] = sh at hs ⊢
  refine vLi_init_77 (b' := (25, 288)) (by decide) rfl ?_
  rw [mem_new hs 12 1036 rfl rfl (by decide +kernel) (by decide +kernel)]
  replace hs := ap_len hs 12
  generalize sh ++ [12] = sh at hs ⊢
  refine vLi_init_85 (b' := (24, 264)) (by decide) rfl ?_
  rw [mem_new hs 12 1100 rfl rfl (by decide +kernel) (by decide +kernel)]
  replace hs := ap_len hs 12
  generalize sh ++ [12] = sh at hs ⊢
  refine vLi_init_93 ?_
  refine vLi_init_95 (b' := (23, 253)) (by decide) rfl (r1 := 466) (mem_gr (by decide +kernel)) ⟨fun q => absurd q (by decide), fun _ => ?_⟩
  rw [mem_len hs 9 1161 rfl, mem_nwl hs 9 1161 rfl rfl (by decide +kernel) (by decide +kernel)]
  replace hs := ap_len hs 9
  generalize sh ++ [9] = sh at hs ⊢
  refine sWo_init ?_
  refine vLi_init_113 rfl rfl ⟨vin (i := 0) (n := 24) (by decide) (by decide), ?_⟩
  rw [mem_sr]
  show X mLi_init 95 [(0, .ref 385), (1, .int 1)] [] (mem sh n xs _ ((466, 0, 1161) :: _)) _ _
  refine vLi_init_95 (b' := (22, 242)) (by decide) rfl (r1 := 466) (mem_gr (by decide +kernel)) ⟨fun q => absurd q (by decide), fun _ => ?_⟩
  rw [mem_len hs 9 1225 rfl, mem_nwl hs 9 1225 rfl rfl (by decide +kernel) (by decide +kernel)]
  replace hs := ap_len hs 9
  generalize sh ++ [9] = sh at hs ⊢
  refine sWo_init ?_
  refine vLi_init_113 rfl rfl ⟨vin (i := 1) (n := 24) (by decide) (by decide), ?_⟩
  rw [mem_sr]
  show X mLi_init 95 [(0, .ref 385), (1, .int 2)] [] (mem sh n xs _ ((466, 1, 1225) :: _)) _ _
  refine vLi_init_95 (b' := (21, 231)) (by decide) rfl (r1 := 466) (mem_gr (by decide +kernel)) ⟨fun q => absurd q (by decide), fun _ => ?_⟩
  rw [mem_len hs 9 1289 rfl, mem_nwl hs 9 1289 rfl rfl (by decide +kernel) (by decide +kernel)]
  replace hs := ap_len hs 9
  generalize sh ++ [9] = sh at hs ⊢
  refine sWo_init ?_
  refine vLi_init_113 rfl rfl ⟨vin (i := 2) (n := 24) (by decide) (by decide), ?_⟩
  rw [mem_sr]
  show X mLi_init 95 [(0, .ref 385), (1, .int 3)] [] (mem sh n xs _ ((466, 2, 1289) :: _)) _ _
  refine vLi_init_95 (b' := (20, 220)) (by decide) rfl (r1 := 466) (mem_gr (by decide +kernel)) ⟨fun q => absurd q (by decide), fun _ => ?_⟩
  rw [mem_len hs 9 1353 rfl, mem_nwl hs 9 1353 rfl rfl (by decide +kernel) (by decide +kernel)]
  replace hs := ap_len hs 9
  generalize sh ++ [9] = sh at hs ⊢
  refine sWo_init ?_
  refine vLi_init_113 rfl rfl ⟨vin (i := 3) (n := 24) (by decide) (by decide), ?_⟩
  rw [mem_sr]
  show X mLi_init 95 [(0, .ref 385), (1, .int 4)] [] (mem sh n xs _ ((466, 3, 1353) :: _)) _ _
  refine vLi_init_95 (b' := (19, 209)) (by decide) rfl (r1 := 466) (mem_gr (by decide +kernel)) ⟨fun q => absurd q (by decide), fun _ => ?_⟩
  rw [mem_len hs 9 1417 rfl, mem_nwl hs 9 1417 rfl rfl (by decide +kernel) (by decide +kernel)]
  replace hs := ap_len hs 9
  generalize sh ++ [9] = sh at hs ⊢
  refine sWo_init ?_
  refine vLi_init_113 rfl rfl ⟨vin (i := 4) (n := 24) (by decide) (by decide), ?_⟩
  rw [mem_sr]
  show X mLi_init 95 [(0, .ref 385), (1, .int 5)] [] (mem sh n xs _ ((466, 4, 1417) :: _)) _ _
  refine vLi_init_95 (b' := (18, 198)) (by decide) rfl (r1 := 466) (mem_gr (by decide +kernel)) ⟨fun q => absurd q (by decide), fun _ => ?_⟩
  rw [mem_len hs 9 1481 rfl, mem_nwl hs 9 1481 rfl rfl (by decide +kernel) (by decide +kernel)]
  replace hs := ap_len hs 9
  generalize sh ++ [9] = sh at hs ⊢
  refine sWo_init ?_
  refine vLi_init_113 rfl rfl ⟨vin (i := 5) (n := 24) (by decide) (by decide), ?_⟩
  rw [mem_sr]
  show X mLi_init 95 [(0, .ref 385), (1, .int 6)] [] (mem sh n xs _ ((466, 5, 1481) :: _)) _ _
  refine vLi_init_95 (b' := (17, 187)) (by decide) rfl (r1 := 466) (mem_gr (by decide +kernel)) ⟨fun q => absurd q (by decide), fun _ => ?_⟩
  rw [mem_len hs 9 1545 rfl, mem_nwl hs 9 1545 rfl rfl (by decide +kernel) (by decide +kernel)]
  replace hs := ap_len hs 9
  generalize sh ++ [9] = sh at hs ⊢
  refine sWo_init ?_
  refine vLi_init_113 rfl rfl ⟨vin (i := 6) (n := 24) (by decide) (by decide), ?_⟩
  rw [mem_sr]
  show X mLi_init 95 [(0, .ref 385), (1, .int 7)] [] (mem sh n xs _ ((466, 6, 1545) :: _)) _ _
  refine vLi_init_95 (b' := (16, 176)) (by decide) rfl (r1 := 466) (mem_gr (by decide +kernel)) ⟨fun q => absurd q (by decide), fun _ => ?_⟩
  rw [mem_len hs 9 1609 rfl, mem_nwl hs 9 1609 rfl rfl (by decide +kernel) (by decide +kernel)]
  replace hs := ap_len hs 9
  generalize sh ++ [9] = sh at hs ⊢
  refine sWo_init ?_
  refine vLi_init_113 rfl rfl ⟨vin (i := 7) (n := 24) (by decide) (by decide), ?_⟩
  rw [mem_sr]
  show X mLi_init 95 [(0, .ref 385), (1, .int 8)] [] (mem sh n xs _ ((466, 7, 1609) :: _)) _ _
  refine vLi_init_95 (b' := (15, 165)) (by decide) rfl (r1 := 466) (mem_gr (by decide +kernel)) ⟨fun q => absurd q (by decide), fun _ => ?_⟩
  rw [mem_len hs 9 1673 rfl, mem_nwl hs 9 1673 rfl rfl (by decide +kernel) (by decide +kernel)]
  replace hs := ap_len hs 9
  generalize sh ++ [9] = sh at hs ⊢
  refine sWo_init ?_
  refine vLi_init_113 rfl rfl ⟨vin (i := 8) (n := 24) (by decide) (by decide), ?_⟩
  rw [mem_sr]
  show X mLi_init 95 [(0, .ref 385), (1, .int 9)] [] (mem sh n xs _ ((466, 8, 1673) :: _)) _ _
  refine vLi_init_95 (b' := (14, 154)) (by decide) rfl (r1 := 466) (mem_gr (by decide +kernel)) ⟨fun q => absurd q (by decide), fun _ => ?_⟩
  rw [mem_len hs 9 1737 rfl, mem_nwl hs 9 1737 rfl rfl (by decide +kernel) (by decide +kernel)]
  replace hs := ap_len hs 9
  generalize sh ++ [9] = sh at hs ⊢
  refine sWo_init ?_
  refine vLi_init_113 rfl rfl ⟨vin (i := 9) (n := 24) (by decide) (by decide), ?_⟩
  rw [mem_sr]
  show X mLi_init 95 [(0, .ref 385), (1, .int 10)] [] (mem sh n xs _ ((466, 9, 1737) :: _)) _ _
  refine vLi_init_95 (b' := (13, 143)) (by decide) rfl (r1 := 466) (mem_gr (by decide +kernel)) ⟨fun q => absurd q (by decide), fun _ => ?_⟩
  rw [mem_len hs 9 1801 rfl, mem_nwl hs 9 1801 rfl rfl (by decide +kernel) (by decide +kernel)]
  replace hs := ap_len hs 9
  generalize sh ++ [9] = sh at hs ⊢
  refine sWo_init ?_
  refine vLi_init_113 rfl rfl ⟨vin (i := 10) (n := 24) (by decide) (by decide), ?_⟩
  rw [mem_sr]
  show X mLi_init 95 [(0, .ref 385), (1, .int 11)] [] (mem sh n xs _ ((466, 10, 1801) :: _)) _ _
  refine vLi_init_95 (b' := (12, 132)) (by decide) rfl (r1 := 466) (mem_gr (by decide +kernel)) ⟨fun q => absurd q (by decide), fun _ => ?_⟩
  rw [mem_len hs 9 1865 rfl, mem_nwl hs 9 1865 rfl rfl (by decide +kernel) (by decide +kernel)]
  replace hs := ap_len hs 9
  generalize sh ++ [9] = sh at hs ⊢
  refine sWo_init ?_
  refine vLi_init_113 rfl rfl ⟨vin (i := 11) (n := 24) (by decide) (by decide), ?_⟩
  rw [mem_sr]
  show X mLi_init 95 [(0, .ref 385), (1, .int 12)] [] (mem sh n xs _ ((466, 11, 1865) :: _)) _ _
  refine vLi_init_95 (b' := (11, 121)) (by decide) rfl (r1 := 466) (mem_gr (by decide +kernel)) ⟨fun q => absurd q (by decide), fun _ => ?_⟩
  rw [mem_len hs 9 1929 rfl, mem_nwl hs 9 1929 rfl rfl (by decide +kernel) (by decide +kernel)]
  replace hs := ap_len hs 9
  generalize sh ++ [9] = sh at hs ⊢
  refine sWo_init ?_
  refine vLi_init_113 rfl rfl ⟨vin (i := 12) (n := 24) (by decide) (by decide), ?_⟩
  rw [mem_sr]
  show X mLi_init 95 [(0, .ref 385), (1, .int 13)] [] (mem sh n xs _ ((466, 12, 1929) :: _)) _ _
  refine vLi_init_95 (b' := (10, 110)) (by decide) rfl (r1 := 466) (mem_gr (by decide +kernel)) ⟨fun q => absurd q (by decide), fun _ => ?_⟩
  rw [mem_len hs 9 1993 rfl, mem_nwl hs 9 1993 rfl rfl (by decide +kernel) (by decide +kernel)]
  replace hs := ap_len hs 9
  generalize sh ++ [9] = sh at hs ⊢
  refine sWo_init ?_
  refine vLi_init_113 rfl rfl ⟨vin (i := 13) (n := 24) (by decide) (by decide), ?_⟩
  rw [mem_sr]
  show X mLi_init 95 [(0, .ref 385), (1, .int 14)] [] (mem sh n xs _ ((466, 13, 1993) :: _)) _ _
  refine vLi_init_95 (b' := (9, 99)) (by decide) rfl (r1 := 466) (mem_gr (by decide +kernel)) ⟨fun q => absurd q (by decide), fun _ => ?_⟩
  rw [mem_len hs 9 2057 rfl, mem_nwl hs 9 2057 rfl rfl (by decide +kernel) (by decide +kernel)]
  replace hs := ap_len hs 9
  generalize sh ++ [9] = sh at hs ⊢
  refine sWo_init ?_
  refine vLi_init_113 rfl rfl ⟨vin (i := 14) (n := 24) (by decide) (by decide), ?_⟩
  rw [mem_sr]
  show X mLi_init 95 [(0, .ref 385), (1, .int 15)] [] (mem sh n xs _ ((466, 14, 2057) :: _)) _ _
  refine vLi_init_95 (b' := (8, 88)) (by decide) rfl (r1 := 466) (mem_gr (by decide +kernel)) ⟨fun q => absurd q (by decide), fun _ => ?_⟩
  rw [mem_len hs 9 2121 rfl, mem_nwl hs 9 2121 rfl rfl (by decide +kernel) (by decide +kernel)]
  replace hs := ap_len hs 9
  generalize sh ++ [9] = sh at hs ⊢
  refine sWo_init ?_
  refine vLi_init_113 rfl rfl ⟨vin (i := 15) (n := 24) (by decide) (by decide), ?_⟩
  rw [mem_sr]
  show X mLi_init 95 [(0, .ref 385), (1, .int 16)] [] (mem sh n xs _ ((466, 15, 2121) :: _)) _ _
  refine vLi_init_95 (b' := (7, 77)) (by decide) rfl (r1 := 466) (mem_gr (by decide +kernel)) ⟨fun q => absurd q (by decide), fun _ => ?_⟩
  rw [mem_len hs 9 2185 rfl, mem_nwl hs 9 2185 rfl rfl (by decide +kernel) (by decide +kernel)]
  replace hs := ap_len hs 9
  generalize sh ++ [9] = sh at hs ⊢
  refine sWo_init ?_
  refine vLi_init_113 rfl rfl ⟨vin (i := 16) (n := 24) (by decide) (by decide), ?_⟩
  rw [mem_sr]
  show X mLi_init 95 [(0, .ref 385), (1, .int 17)] [] (mem sh n xs _ ((466, 16, 2185) :: _)) _ _
  refine vLi_init_95 (b' := (6, 66)) (by decide) rfl (r1 := 466) (mem_gr (by decide +kernel)) ⟨fun q => absurd q (by decide), fun _ => ?_⟩
  rw [mem_len hs 9 2249 rfl, mem_nwl hs 9 2249 rfl rfl (by decide +kernel) (by decide +kernel)]
  replace hs := ap_len hs 9
  generalize sh ++ [9] = sh at hs ⊢
  refine sWo_init ?_
  refine vLi_init_113 rfl rfl ⟨vin (i := 17) (n := 24) (by decide) (by decide), ?_⟩
  rw [mem_sr]
  show X mLi_init 95 [(0, .ref 385), (1, .int 18)] [] (mem sh n xs _ ((466, 17, 2249) :: _)) _ _
  refine vLi_init_95 (b' := (5, 55)) (by decide) rfl (r1 := 466) (mem_gr (by decide +kernel)) ⟨fun q => absurd q (by decide), fun _ => ?_⟩
  rw [mem_len hs 9 2313 rfl, mem_nwl hs 9 2313 rfl rfl (by decide +kernel) (by decide +kernel)]
  replace hs := ap_len hs 9
  generalize sh ++ [9] = sh at hs ⊢
  refine sWo_init ?_
  refine vLi_init_113 rfl rfl ⟨vin (i := 18) (n := 24) (by decide) (by decide), ?_⟩
  rw [mem_sr]
  show X mLi_init 95 [(0, .ref 385), (1, .int 19)] [] (mem sh n xs _ ((466, 18, 2313) :: _)) _ _
  refine vLi_init_95 (b' := (4, 44)) (by decide) rfl (r1 := 466) (mem_gr (by decide +kernel)) ⟨fun q => absurd q (by decide), fun _ => ?_⟩
  rw [mem_len hs 9 2377 rfl, mem_nwl hs 9 2377 rfl rfl (by decide +kernel) (by decide +kernel)]
  replace hs := ap_len hs 9
  generalize sh ++ [9] = sh at hs ⊢
  refine sWo_init ?_
  refine vLi_init_113 rfl rfl ⟨vin (i := 19) (n := 24) (by decide) (by decide), ?_⟩
  rw [mem_sr]
  show X mLi_init 95 [(0, .ref 385), (1, .int 20)] [] (mem sh n xs _ ((466, 19, 2377) :: _)) _ _
  refine vLi_init_95 (b' := (3, 33)) (by decide) rfl (r1 := 466) (mem_gr (by decide +kernel)) ⟨fun q => absurd q (by decide), fun _ => ?_⟩
  rw [mem_len hs 9 2441 rfl, mem_nwl hs 9 2441 rfl rfl (by decide +kernel) (by decide +kernel)]
  replace hs := ap_len hs 9
  generalize sh ++ [9] = sh at hs ⊢
  refine sWo_init ?_
  refine vLi_init_113 rfl rfl ⟨vin (i := 20) (n := 24) (by decide) (by decide), ?_⟩
  rw [mem_sr]
  show X mLi_init 95 [(0, .ref 385), (1, .int 21)] [] (mem sh n xs _ ((466, 20, 2441) :: _)) _ _
  refine vLi_init_95 (b' := (2, 22)) (by decide) rfl (r1 := 466) (mem_gr (by decide +kernel)) ⟨fun q => absurd q (by decide), fun _ => ?_⟩
  rw [mem_len hs 9 2505 rfl, mem_nwl hs 9 2505 rfl rfl (by decide +kernel) (by decide +kernel)]
  replace hs := ap_len hs 9
  generalize sh ++ [9] = sh at hs ⊢
  refine sWo_init ?_
  refine vLi_init_113 rfl rfl ⟨vin (i := 21) (n := 24) (by decide) (by decide), ?_⟩
  rw [mem_sr]
  show X mLi_init 95 [(0, .ref 385), (1, .int 22)] [] (mem sh n xs _ ((466, 21, 2505) :: _)) _ _
  refine vLi_init_95 (b' := (1, 11)) (by decide) rfl (r1 := 466) (mem_gr (by decide +kernel)) ⟨fun q => absurd q (by decide), fun _ => ?_⟩
  rw [mem_len hs 9 2569 rfl, mem_nwl hs 9 2569 rfl rfl (by decide +kernel) (by decide +kernel)]
  replace hs := ap_len hs 9
  generalize sh ++ [9] = sh at hs ⊢
  refine sWo_init ?_
  refine vLi_init_113 rfl rfl ⟨vin (i := 22) (n := 24) (by decide) (by decide), ?_⟩
  rw [mem_sr]
  show X mLi_init 95 [(0, .ref 385), (1, .int 23)] [] (mem sh n xs _ ((466, 22, 2569) :: _)) _ _
  refine vLi_init_95 (b' := (0, 0)) (by decide) rfl (r1 := 466) (mem_gr (by decide +kernel)) ⟨fun q => absurd q (by decide), fun _ => ?_⟩
  rw [mem_len hs 9 2633 rfl, mem_nwl hs 9 2633 rfl rfl (by decide +kernel) (by decide +kernel)]
  replace hs := ap_len hs 9
  generalize sh ++ [9] = sh at hs ⊢
  refine sWo_init ?_
  refine vLi_init_113 rfl rfl ⟨vin (i := 23) (n := 24) (by decide) (by decide), ?_⟩
  rw [mem_sr]
  show X mLi_init 95 [(0, .ref 385), (1, .int 24)] [] (mem sh n xs _ ((466, 23, 2633) :: _)) _ _
  refine vLi_end95 rfl (by decide) ?_
  have hl := mem_lr (sh := sh) (n := n) (xs := xs) (I := laI0) (G := laG1) (r := 385) rfl (by decide +kernel) (by decide +kernel)
  refine sLi_clear hl ?_
  rw [mem_si rfl, mem_fl rfl]
  refine vLi_init_124 rfl ?_
  refine sLi_settle0 hl ((mem_gi rfl).trans (by decide +kernel)) ?_
  unfold st0 al0 so0 fr0 sw0
  rw [mem_fl rfl, mem_fl rfl, mem_si rfl, mem_si rfl, mem_si rfl, mem_si rfl, mem_fl rfl, mem_fl rfl, mem_fl rfl, mem_fl rfl, mem_fl rfl]
  refine vLi_init_128 ?_
  exact h sh hs
end MG5
section MG6
/-! ===== the reference: how it lies, its beginning ===== -/
def mrt : List (Nat × Nat) := [(1, 6101), (2, 6157), (4, 6229), (5, 6285), (6, 6360), (7, 6423), (10, 6486), (18, 6543), (19, 6607), (20, 6671), (21, 6745), (22, 6807), (25, 6874), (26, 6938), (27, 7003), (28, 7067), (29, 7131), (30, 7182), (31, 7246), (32, 7310), (33, 7374), (34, 7438), (37, 7502), (38, 7582), (40, 7644), (41, 7708), (42, 7773)]
def MR (M : Mm) : Prop := ∀ q ∈ mrt, gr M 6027 q.1 = some q.2
theorem mr1 {M : Mm} (h : MR M) : gr M 6027 1 = some 6101 := h (1, 6101) (by decide)
theorem mr2 {M : Mm} (h : MR M) : gr M 6027 2 = some 6157 := h (2, 6157) (by decide)
theorem mr4 {M : Mm} (h : MR M) : gr M 6027 4 = some 6229 := h (4, 6229) (by decide)
theorem mr5 {M : Mm} (h : MR M) : gr M 6027 5 = some 6285 := h (5, 6285) (by decide)
theorem mr6 {M : Mm} (h : MR M) : gr M 6027 6 = some 6360 := h (6, 6360) (by decide)
theorem mr7 {M : Mm} (h : MR M) : gr M 6027 7 = some 6423 := h (7, 6423) (by decide)
theorem mr10 {M : Mm} (h : MR M) : gr M 6027 10 = some 6486 := h (10, 6486) (by decide)
theorem mr18 {M : Mm} (h : MR M) : gr M 6027 18 = some 6543 := h (18, 6543) (by decide)
theorem mr19 {M : Mm} (h : MR M) : gr M 6027 19 = some 6607 := h (19, 6607) (by decide)
theorem mr20 {M : Mm} (h : MR M) : gr M 6027 20 = some 6671 := h (20, 6671) (by decide)
theorem mr21 {M : Mm} (h : MR M) : gr M 6027 21 = some 6745 := h (21, 6745) (by decide)
theorem mr22 {M : Mm} (h : MR M) : gr M 6027 22 = some 6807 := h (22, 6807) (by decide)
theorem mr25 {M : Mm} (h : MR M) : gr M 6027 25 = some 6874 := h (25, 6874) (by decide)
theorem mr26 {M : Mm} (h : MR M) : gr M 6027 26 = some 6938 := h (26, 6938) (by decide)
theorem mr27 {M : Mm} (h : MR M) : gr M 6027 27 = some 7003 := h (27, 7003) (by decide)
theorem mr28 {M : Mm} (h : MR M) : gr M 6027 28 = some 7067 := h (28, 7067) (by decide)
theorem mr29 {M : Mm} (h : MR M) : gr M 6027 29 = some 7131 := h (29, 7131) (by decide)
theorem mr30 {M : Mm} (h : MR M) : gr M 6027 30 = some 7182 := h (30, 7182) (by decide)
theorem mr31 {M : Mm} (h : MR M) : gr M 6027 31 = some 7246 := h (31, 7246) (by decide)
theorem mr32 {M : Mm} (h : MR M) : gr M 6027 32 = some 7310 := h (32, 7310) (by decide)
theorem mr33 {M : Mm} (h : MR M) : gr M 6027 33 = some 7374 := h (33, 7374) (by decide)
theorem mr34 {M : Mm} (h : MR M) : gr M 6027 34 = some 7438 := h (34, 7438) (by decide)
theorem mr37 {M : Mm} (h : MR M) : gr M 6027 37 = some 7502 := h (37, 7502) (by decide)
theorem mr38 {M : Mm} (h : MR M) : gr M 6027 38 = some 7582 := h (38, 7582) (by decide)
theorem mr40 {M : Mm} (h : MR M) : gr M 6027 40 = some 7644 := h (40, 7644) (by decide)
theorem mr41 {M : Mm} (h : MR M) : gr M 6027 41 = some 7708 := h (41, 7708) (by decide)
theorem mr42 {M : Mm} (h : MR M) : gr M 6027 42 = some 7773 := h (42, 7773) (by decide)
theorem si_fl (M : Mm) (a b j n : Nat) (v w : Int32) (h : a ≠ b) : si (fl M b n w) a j v = fl (si M a j v) b n w := by
  refine mm_ext rfl (fun c k => ?_) (fun _ _ => rfl) (fun _ _ => rfl)
  simp only [gi_si, gi_fl]
  by_cases p : c = a ∧ k = j
  · have q : ¬ (c = b ∧ k < n) := fun q => h (p.1.symm.trans q.1)
    rw [if_pos p, if_neg q, if_pos p]
  · rw [if_neg p]
    by_cases q : c = b ∧ k < n
    · rw [if_pos q, if_pos q]
    · rw [if_neg q, if_neg q, if_neg p]
theorem si_rwm (M : Mm) (a b j n : Nat) (v : Int32) (w : Nat → Int32) (h : a ≠ b) : si (rwm M b n w) a j v = rwm (si M a j v) b n w := by
  refine mm_ext rfl (fun c k => ?_) (fun _ _ => rfl) (fun _ _ => rfl)
  simp only [gi_si, gi_rwm]
  by_cases p : c = a ∧ k = j
  · have q : ¬ (c = b ∧ k < n) := fun q => h (p.1.symm.trans q.1)
    rw [if_pos p, if_neg q, if_pos p]
  · rw [if_neg p]
    by_cases q : c = b ∧ k < n
    · rw [if_pos q, if_pos q]
    · rw [if_neg q, if_neg q, if_neg p]
theorem fl2_s (M : Mm) (a b i : Nat) (v w : Int32) (h : a ≠ b) : si (si (fl (fl M a i v) b i w) a i v) b i w = fl (fl M a (i + 1) v) b (i + 1) w := by
  rw [si_fl _ _ _ _ _ _ _ h, fl_s, fl_s]
theorem rw2_s (M : Mm) (a b i : Nat) (f g : Nat → Int32) (h : a ≠ b) : si (si (rwm (rwm M a i f) b i g) a i (f i)) b i (g i) = rwm (rwm M a (i + 1) f) b (i + 1) g := by
  rw [si_rwm _ _ _ _ _ _ _ h, rwm_s, rwm_s]
theorem rwfl_s (M : Mm) (a b i : Nat) (v : Int32) (g : Nat → Int32) (h : a ≠ b) : si (si (rwm (fl M a i v) b i g) a i v) b i (g i) = rwm (fl M a (i + 1) v) b (i + 1) g := by
  rw [si_rwm _ _ _ _ _ _ _ h, fl_s, rwm_s]
theorem rwm_cg (M : Mm) (a n : Nat) (f g : Nat → Int32) (h : ∀ k, k < n → f k = g k) : rwm M a n f = rwm M a n g := by
  refine mm_ext rfl (fun b k => ?_) (fun _ _ => rfl) (fun _ _ => rfl)
  rw [gi_rwm, gi_rwm]
  by_cases e : b = a ∧ k < n
  · rw [if_pos e, if_pos e, h k e.2]
  · rw [if_neg e, if_neg e]
theorem gr_si (M : Mm) (a j : Nat) (v : Int32) : gr (si M a j v) = gr M := rfl
theorem gr_fl (M : Mm) (a n : Nat) (v : Int32) : gr (fl M a n v) = gr M := rfl
theorem gr_rwm (M : Mm) (a n : Nat) (f : Nat → Int32) : gr (rwm M a n f) = gr M := rfl
theorem mr_w {M N : Mm} (h : MR M) (e : gr N = gr M) : MR N := fun q hq => by rw [e]; exact h q hq
def fb0 (M : Mm) : Mm := fl (fl (si (si M 6027 3 0) 6027 8 0) 6285 8 2) 6360 8 0
theorem gr_fb0 (M : Mm) : gr (fb0 M) = gr M := by unfold fb0; simp only [gr_fl, gr_si]
theorem sM_firstLibrary {M : Mm} {K : Mm → Prop} (hm : MR M) (h : K (fb0 M)) : CV mM_firstLibrary [.ref 6027] M K := by
  refine call_of rfl (Nat.le_of_ble_eq_true rfl) rfl ?_
  refine vM_firstLibrary_0 rfl ?_
  have key := lp 8 (P := fun i => X mM_firstLibrary 12 [(0, .ref 6027), (1, .int (nI i))] [] (fl (fl (si (si M 6027 3 0) 6027 8 0) 6285 i 2) 6360 i 0) (mC mM_firstLibrary, mS mM_firstLibrary) (QV K)) (fun i hi ih => ?_) ?_
  · rw [fl_0, fl_0] at key
    exact key
  · refine vM_firstLibrary_12 rfl (mr5 hm) (mr6 hm) ⟨fun q => absurd q (nge rfl (by decide) hi), fun _ => ⟨vin hi (by decide), vin hi (by decide), ?_⟩⟩
    rw [ncl (by omega), nI_s, show vp_nar .boolean 0 = 0 from rfl, fl2_s _ _ _ _ _ _ (by decide)]
    exact ih
  · exact vM_firstLibrary_12 rfl (mr5 hm) (mr6 hm) ⟨fun _ => h, fun q => absurd (nself rfl) q⟩
theorem sM_findFollowing0 {M : Mm} {K : Mm → Prop} (hm : MR M) (hz : gi M 6027 0 = 0) (h : K (si (si M 6027 23 0) 6027 24 0)) : CV mM_findFollowing [.ref 6027] M K := by
  refine call_of rfl (Nat.le_of_ble_eq_true rfl) rfl ?_
  have e : gi M 6027 0 ≤ 0 := by rw [hz]; exact Int32.le_refl _
  refine vM_findFollowing_0 ?_
  refine vM_findFollowing_2 rfl (mr22 hm) ⟨fun _ => ?_, fun q => absurd e q⟩
  refine vM_findFollowing_29 rfl ⟨fun _ => ?_, fun q => absurd e q⟩
  refine vM_findFollowing_99 rfl (mr22 hm) ⟨fun q => absurd e q, fun _ => ?_, fun q => absurd e q⟩
  exact vM_findFollowing_142 rfl (mr22 hm) ⟨fun q => absurd e q, fun _ => h, fun q => absurd e q.1, fun q => absurd e q.1⟩
theorem sM_findSaid0 {M : Mm} {K : Mm → Prop} (hm : MR M) (hz : gi M 6027 0 = 0) (h : K M) : CV mM_findSaid [.ref 6027] M K := by
  refine call_of rfl (Nat.le_of_ble_eq_true rfl) rfl ?_
  have e : gi M 6027 0 ≤ 0 := by rw [hz]; exact Int32.le_refl _
  refine vM_findSaid_0 ?_
  refine vM_findSaid_4 rfl (mr25 hm) (mr26 hm) ⟨fun _ => ?_, fun q => absurd e q⟩
  exact vM_findSaid_34 rfl ⟨fun _ => h, fun q => absurd e q⟩
def kb1 (M : Mm) : Mm := rwm (si M 6027 0 (gi M 6027 3)) 6101 250 (gi M 6229)
def kb2 (M : Mm) : Mm := si (rwm (kb1 M) 6157 8 (gi M 6285)) 6027 9 255
def kb0 (M : Mm) : Mm := si (si (kb2 M) 6027 23 0) 6027 24 0
theorem gr_kb1 (M : Mm) : gr (kb1 M) = gr M := by unfold kb1; simp only [gr_rwm, gr_si]
theorem gr_kb2 (M : Mm) : gr (kb2 M) = gr M := by unfold kb2; simp only [gr_rwm, gr_si, gr_kb1]
theorem gr_kb0 (M : Mm) : gr (kb0 M) = gr M := by unfold kb0; simp only [gr_si, gr_kb2]
theorem sM_keepLibrary0 {M : Mm} {K : Mm → Prop} (hm : MR M) (hz : gi M 6027 3 = 0) (h : K (kb0 M)) : CV mM_keepLibrary [.ref 6027] M K := by
  refine call_of rfl (Nat.le_of_ble_eq_true rfl) rfl ?_
  refine vM_keepLibrary_0 rfl ?_
  have k2 : X mM_keepLibrary 37 [(0, .ref 6027), (1, .int 0)] [] (kb1 M) (mC mM_keepLibrary, mS mM_keepLibrary) (QV K) := by
    have key := lp 8 (P := fun i => X mM_keepLibrary 37 [(0, .ref 6027), (1, .int (nI i))] [] (rwm (kb1 M) 6157 i (gi M 6285)) (mC mM_keepLibrary, mS mM_keepLibrary) (QV K)) (fun i hi ih => ?_) ?_
    · rw [rwm_0] at key
      exact key
    · have hm := mr_w hm (show gr (rwm (kb1 M) 6157 i (gi M 6285)) = gr M from by rw [gr_rwm, gr_kb1])
      refine vM_keepLibrary_37 rfl (mr2 hm) (mr5 hm) ⟨fun _ => vin hi (by decide), fun q => absurd q (nge rfl (by decide) hi), fun _ => ⟨vin hi (by decide), ?_⟩⟩
      rw [ncl (by omega), nI_s, rwmR _ _ _ _ _ _ (by decide)]
      rw [show gi (kb1 M) 6285 i = gi M 6285 i from rwmR _ _ _ _ _ _ (by decide), rwm_s]
      exact ih
    · have hm1 := mr_w hm (show gr (rwm (kb1 M) 6157 8 (gi M 6285)) = gr M from by rw [gr_rwm, gr_kb1])
      refine vM_keepLibrary_37 rfl (mr2 hm1) (mr5 hm1) ⟨fun q => absurd (nself rfl) q, fun _ => ?_, fun q => absurd (nself rfl) q⟩
      have e : gi (kb2 M) 6027 0 = 0 := by
        unfold kb2
        rw [gi_si, if_neg (by decide), rwmR _ _ _ _ _ _ (by decide), kb1, rwmR _ _ _ _ _ _ (by decide), gi_si, if_pos ⟨rfl, rfl⟩, hz]
      refine sM_findFollowing0 (M := kb2 M) (mr_w hm (gr_kb2 M)) e ?_
      refine vM_keepLibrary_72 rfl ?_
      refine sM_findSaid0 (M := kb0 M) (mr_w hm (gr_kb0 M)) (by unfold kb0; rw [gi_si, if_neg (by decide), gi_si, if_neg (by decide), e]) ?_
      exact vM_keepLibrary_76 h
  have key := lp 250 (P := fun i => X mM_keepLibrary 10 [(0, .ref 6027), (1, .int (nI i))] [] (rwm (si M 6027 0 (gi M 6027 3)) 6101 i (gi M 6229)) (mC mM_keepLibrary, mS mM_keepLibrary) (QV K)) (fun i hi ih => ?_) ?_
  · rw [rwm_0] at key
    exact key
  · refine vM_keepLibrary_10 rfl (mr1 hm) (mr4 hm) ⟨fun _ => vin hi (by decide), fun q => absurd q (nge rfl (by decide) hi), fun _ => ⟨vin hi (by decide), ?_⟩⟩
    rw [ncl (by omega), nI_s, rwmR _ _ _ _ _ _ (by decide), giR _ _ _ _ _ _ (by decide), rwm_s]
    exact ih
  · exact vM_keepLibrary_10 rfl (mr1 hm) (mr4 hm) ⟨fun q => absurd (nself rfl) q, fun _ => k2, fun q => absurd (nself rfl) q⟩
/-- THE RULE as told at first -/
def dv (k : Nat) : Int32 := if k = 0 then 31 else if k = 1 then 2 else if k = 4 then -4 else if k = 5 then -4 else if k = 6 then 1 else 0
def fu0 (M : Mm) : Mm := rwm (fl M 6745 7 0) 6671 7 dv
theorem sM_firstRule {M : Mm} {K : Mm → Prop} (hm : MR M) (h : K (fu0 M)) : CV mM_firstRule [.ref 6027] M K := by
  refine call_of rfl (Nat.le_of_ble_eq_true rfl) rfl ?_
  refine vM_firstRule_0 ?_
  have key := lp 7 (P := fun i => X mM_firstRule 2 [(0, .ref 6027), (1, .int (nI i))] [] (rwm (fl M 6745 i 0) 6671 i dv) (mC mM_firstRule, mS mM_firstRule) (QV K)) (fun i hi ih => ?_) ?_
  · rw [fl_0, rwm_0] at key
    exact key
  · have go : ∀ w, w = dv i → X mM_firstRule 64 [(0, .ref 6027), (1, .int (nI i))] [.int w, .int (nI i), .ref 6671] (si (rwm (fl M 6745 i 0) 6671 i dv) 6745 (nI i).toNatClampNeg (vp_nar .boolean 0)) (mC mM_firstRule, mS mM_firstRule) (QV K) := by
      rintro w rfl
      refine vM_firstRule_64 rfl ⟨vin hi (by decide), ?_⟩
      rw [ncl (by omega), nI_s, show vp_nar .boolean 0 = 0 from rfl, rwfl_s _ _ _ _ _ _ (by decide)]
      exact ih
    have nz : ∀ j, j < 7 → ((nI i = nI j) ↔ i = j) := fun j hj => ninj (by omega) (by omega)
    have e0 : (nI i = 0) ↔ i = 0 := nz 0 (by decide)
    have e1 : (nI i = 1) ↔ i = 1 := nz 1 (by decide)
    have e4 : (nI i = 4) ↔ i = 4 := nz 4 (by decide)
    have e5 : (nI i = 5) ↔ i = 5 := nz 5 (by decide)
    have e6 : (nI i = 6) ↔ i = 6 := nz 6 (by decide)
    refine vM_firstRule_2 rfl (mr21 hm) (mr20 hm) ⟨fun q => absurd q (nge rfl (by decide) hi), fun _ => ⟨vin hi (by decide), fun q => go _ ?_, fun q => go _ ?_, fun q => go _ ?_, fun q => go _ ?_, fun q => go _ ?_⟩⟩ <;> simp only [e0, e1, e4, e5, e6] at q <;> unfold dv
    · rcases q with q | q <;> simp [q]
    · simp [q]
    · simp [q]
    · simp [q]
    · simp [q]
  · exact vM_firstRule_2 rfl (mr21 hm) (mr20 hm) ⟨fun _ => h, fun q => absurd (nself rfl) q⟩
theorem gr_fu0 (M : Mm) : gr (fu0 M) = gr M := by unfold fu0; simp only [gr_rwm, gr_fl]
def mt1 (M : Mm) : Mm := fu0 (kb0 (fb0 (fl M 7644 4 (-4))))
def mt0 (M : Mm) : Mm := rwm (rwm (mt1 M) 6543 7 (gi (mt1 M) 6671)) 6607 7 (gi (mt1 M) 6671)
theorem gr_mt1 (M : Mm) : gr (mt1 M) = gr M := by unfold mt1; rw [gr_fu0, gr_kb0, gr_fb0, gr_fl]
theorem sM_init_tail {M : Mm} {b : Nat × Nat} {K : Mm → Prop} (hm : MR M) (h : K (mt0 M)) : X mM_init 230 [(0, .ref 6027)] [] M b (QV K) := by
  refine vM_init_230 ?_
  have k1 : X mM_init 265 [(0, .ref 6027), (1, .int 0)] [] (mt1 M) b (QV K) := by
    have key := lp 7 (P := fun i => X mM_init 265 [(0, .ref 6027), (1, .int (nI i))] [] (rwm (rwm (mt1 M) 6543 i (gi (mt1 M) 6671)) 6607 i (gi (mt1 M) 6671)) b (QV K)) (fun i hi ih => ?_) ?_
    · rw [rwm_0, rwm_0] at key
      exact key
    · have hm := mr_w hm (show gr (rwm (rwm (mt1 M) 6543 i (gi (mt1 M) 6671)) 6607 i (gi (mt1 M) 6671)) = gr M from by rw [gr_rwm, gr_rwm, gr_mt1])
      refine vM_init_265 rfl (mr18 hm) (mr20 hm) (mr19 hm) ⟨fun _ => vin hi (by decide), fun q => absurd q (nge rfl (by decide) hi), fun _ => ⟨vin hi (by decide), vin hi (by decide), vin hi (by decide), ?_⟩⟩
      rw [ncl (by omega), nI_s, giR _ _ _ _ _ _ (by decide), rwmR _ _ _ _ _ _ (by decide), rwmR _ _ _ _ _ _ (by decide), rw2_s _ _ _ _ _ _ (by decide)]
      exact ih
    · have hm := mr_w hm (show gr (rwm (rwm (mt1 M) 6543 7 (gi (mt1 M) 6671)) 6607 7 (gi (mt1 M) 6671)) = gr M from by rw [gr_rwm, gr_rwm, gr_mt1])
      exact vM_init_265 rfl (mr18 hm) (mr20 hm) (mr19 hm) ⟨fun q => absurd (nself rfl) q, fun _ => h, fun q => absurd (nself rfl) q⟩
  have key := lp 4 (P := fun i => X mM_init 232 [(0, .ref 6027), (1, .int (nI i))] [] (fl M 7644 i (-4)) b (QV K)) (fun i hi ih => ?_) ?_
  · rw [fl_0] at key
    exact key
  · refine vM_init_232 rfl (mr40 hm) ⟨fun q => absurd q (nge rfl (by decide) hi), fun _ => ⟨vin hi (by decide), ?_⟩⟩
    rw [ncl (by omega), nI_s, fl_s]
    exact ih
  · refine vM_init_232 rfl (mr40 hm) ⟨fun _ => ?_, fun q => absurd (nself rfl) q⟩
    refine sM_firstLibrary hm ?_
    refine vM_init_255 rfl ?_
    refine sM_keepLibrary0 (M := fb0 (fl M 7644 4 (-4))) (mr_w hm (by rw [gr_fb0, gr_fl])) ?_ ?_
    · unfold fb0
      rw [flR _ _ _ _ _ _ (by decide), flR _ _ _ _ _ _ (by decide), gi_si, if_neg (by decide), gi_si, if_pos ⟨rfl, rfl⟩]
    · refine vM_init_259 rfl ?_
      refine sM_firstRule (M := kb0 (fb0 (fl M 7644 4 (-4)))) (mr_w hm (by rw [gr_kb0, gr_fb0, gr_fl])) ?_
      exact vM_init_263 k1
theorem rwm7 (M : Mm) (a : Nat) (f : Nat → Int32) : rwm M a 7 f = si (si (si (si (si (si (si M a 0 (f 0)) a 1 (f 1)) a 2 (f 2)) a 3 (f 3)) a 4 (f 4)) a 5 (f 5)) a 6 (f 6) := by
  rw [← rwm_s, ← rwm_s, ← rwm_s, ← rwm_s, ← rwm_s, ← rwm_s, ← rwm_s, rwm_0]
end MG6
section MG7
theorem vC_end166 {M : Mm} {b : Nat × Nat} {K : Mm → Prop} {v0 : Nat} {v1 : Int32} (hv : 4 ≤ v1) (h : K M) : X mC_init 166 [(0, .ref v0), (1, .int v1)] [] M b (QV K) := by
  refine x_iload_n (pc := 166) dC_init_166 rfl (q := 1) rfl ?_
  refine x_iconst (pc := 167) dC_init_167 (v := 4) rfl ?_
  refine x_icmp_ge (pc := 168) dC_init_168 (t := 190) rfl (fun q1 => ?_) (fun q1 => absurd hv q1)
  exact x_retQV (pc := 190) dC_init_190 rfl h
def lbI0 : List (Nat × Nat × Nat × Int32) := [(782, 0, 64, -4), (718, 0, 64, -4), (975, 0, 7, 0), (654, 0, 64, 0), (590, 0, 64, 0), (385, 13, 14, 0), (385, 12, 13, 0), (385, 11, 12, 0), (385, 10, 11, 0), (909, 0, 8, 0), (845, 0, 8, 0), (525, 0, 8, 2), (385, 1, 2, 0)]
def lbG0 : List (Nat × Nat × Nat) := [(10, 4, 385), (466, 23, 2633), (466, 22, 2569), (466, 21, 2505), (466, 20, 2441), (466, 19, 2377), (466, 18, 2313), (466, 17, 2249), (466, 16, 2185), (466, 15, 2121), (466, 14, 2057), (466, 13, 1993), (466, 12, 1929), (466, 11, 1865), (466, 10, 1801), (466, 9, 1737), (466, 8, 1673), (466, 7, 1609), (466, 6, 1545), (466, 5, 1481), (466, 4, 1417), (466, 3, 1353), (466, 2, 1289), (466, 1, 1225), (466, 0, 1161), (385, 15, 1100), (385, 14, 1036), (385, 9, 975), (385, 8, 909), (385, 7, 845), (385, 6, 782), (385, 5, 718), (385, 4, 654), (385, 3, 590), (385, 2, 525), (385, 0, 466), (10, 3, 324), (324, 0, 199), (10, 2, 258), (258, 0, 199), (10, 1, 199), (199, 0, 70), (10, 0, 70), (70, 0, 145)]
def lbG1 : List (Nat × Nat × Nat) := [(2770, 23, 4937), (2770, 22, 4873), (2770, 21, 4809), (2770, 20, 4745), (2770, 19, 4681), (2770, 18, 4617), (2770, 17, 4553), (2770, 16, 4489), (2770, 15, 4425), (2770, 14, 4361), (2770, 13, 4297), (2770, 12, 4233), (2770, 11, 4169), (2770, 10, 4105), (2770, 9, 4041), (2770, 8, 3977), (2770, 7, 3913), (2770, 6, 3849), (2770, 5, 3785), (2770, 4, 3721), (2770, 3, 3657), (2770, 2, 3593), (2770, 1, 3529), (2770, 0, 3465), (2689, 15, 3404), (2689, 14, 3340), (2689, 9, 3279), (2689, 8, 3213), (2689, 7, 3149), (2689, 6, 3086), (2689, 5, 3022), (2689, 4, 2958), (2689, 3, 2894), (2689, 2, 2829), (2689, 0, 2770), (10, 4, 385), (466, 23, 2633), (466, 22, 2569), (466, 21, 2505), (466, 20, 2441), (466, 19, 2377), (466, 18, 2313), (466, 17, 2249), (466, 16, 2185), (466, 15, 2121), (466, 14, 2057), (466, 13, 1993), (466, 12, 1929), (466, 11, 1865), (466, 10, 1801), (466, 9, 1737), (466, 8, 1673), (466, 7, 1609), (466, 6, 1545), (466, 5, 1481), (466, 4, 1417), (466, 3, 1353), (466, 2, 1289), (466, 1, 1225), (466, 0, 1161), (385, 15, 1100), (385, 14, 1036), (385, 9, 975), (385, 8, 909), (385, 7, 845), (385, 6, 782), (385, 5, 718), (385, 4, 654), (385, 3, 590), (385, 2, 525), (385, 0, 466), (10, 3, 324), (324, 0, 199), (10, 2, 258), (258, 0, 199), (10, 1, 199), (199, 0, 70), (10, 0, 70), (70, 0, 145)]
def lbI1 : List (Nat × Nat × Nat × Int32) := [(3086, 0, 64, -4), (3022, 0, 64, -4), (3279, 0, 7, 0), (2958, 0, 64, 0), (2894, 0, 64, 0), (2689, 13, 14, 0), (2689, 12, 13, 0), (2689, 11, 12, 0), (2689, 10, 11, 0), (3213, 0, 8, 0), (3149, 0, 8, 0), (2829, 0, 8, 2), (2689, 1, 2, 0), (782, 0, 64, -4), (718, 0, 64, -4), (975, 0, 7, 0), (654, 0, 64, 0), (590, 0, 64, 0), (385, 13, 14, 0), (385, 12, 13, 0), (385, 11, 12, 0), (385, 10, 11, 0), (909, 0, 8, 0), (845, 0, 8, 0), (525, 0, 8, 2), (385, 1, 2, 0)]
set_option maxRecDepth 20000 in
theorem sLi_init_B {sh : List Nat} {n : Nat} {xs : Nat → Int32} {K : Mm → Prop} (hs : sh.length = 43) (h : ∀ sh : List Nat, sh.length = 78 → K (mem sh n xs lbI1 lbG1)) : CV mLi_init [.ref 2689] (mem sh n xs lbI0 lbG0) K := by
  refine call_of rfl (Nat.le_of_ble_eq_true rfl) rfl ?_
  refine vLi_init_0 ?_
  refine vLi_init_4 (b' := (34, 599)) (by decide) rfl ?_
  rw [mem_new hs 18 2770 rfl rfl (by decide +kernel) (by decide +kernel)]
  replace hs := ap_len hs 18
  generalize sh ++ [18] = sh at hs ⊢
  refine vLi_init_13 (b' := (33, 591)) (by decide) rfl ?_
  rw [mem_new hs 13 2829 rfl rfl (by decide +kernel) (by decide +kernel)]
  replace hs := ap_len hs 13
  generalize sh ++ [13] = sh at hs ⊢
  refine vLi_init_21 (b' := (32, 527)) (by decide) rfl ?_
  rw [mem_new hs 14 2894 rfl rfl (by decide +kernel) (by decide +kernel)]
  replace hs := ap_len hs 14
  generalize sh ++ [14] = sh at hs ⊢
  refine vLi_init_29 (b' := (31, 463)) (by decide) rfl ?_
  rw [mem_new hs 14 2958 rfl rfl (by decide +kernel) (by decide +kernel)]
  replace hs := ap_len hs 14
  generalize sh ++ [14] = sh at hs ⊢
  refine vLi_init_37 (b' := (30, 399)) (by decide) rfl ?_
  rw [mem_new hs 14 3022 rfl rfl (by decide +kernel) (by decide +kernel)]
  replace hs := ap_len hs 14
  generalize sh ++ [14] = sh at hs ⊢
  refine vLi_init_45 (b' := (29, 335)) (by decide) rfl ?_
  rw [mem_new hs 14 3086 rfl rfl (by decide +kernel) (by decide +kernel)]
  replace hs := ap_len hs 14
  generalize sh ++ [14] = sh at hs ⊢
  refine vLi_init_53 (b' := (28, 327)) (by decide) rfl ?_
  rw [mem_new hs 13 3149 rfl rfl (by decide +kernel) (by decide +kernel)]
  replace hs := ap_len hs 13
  generalize sh ++ [13] = sh at hs ⊢
  refine vLi_init_61 (b' := (27, 319)) (by decide) rfl ?_
  rw [mem_new hs 13 3213 rfl rfl (by decide +kernel) (by decide +kernel)]
  replace hs := ap_len hs 13
  generalize sh ++ [13] = sh at hs ⊢
  refine vLi_init_69 (b' := (26, 312)) (by decide) rfl ?_
  rw [mem_new hs 15 3279 rfl rfl (by decide +kernel) (by decide +kernel)]
  replace hs := ap_len hs 15
  generalize sh ++ [15] = sh at hs ⊢
  refine vLi_init_77 (b' := (25, 288)) (by decide) rfl ?_
  rw [mem_new hs 12 3340 rfl rfl (by decide +kernel) (by decide +kernel)]
  replace hs := ap_len hs 12
  generalize sh ++ [12] = sh at hs ⊢
  refine vLi_init_85 (b' := (24, 264)) (by decide) rfl ?_
  rw [mem_new hs 12 3404 rfl rfl (by decide +kernel) (by decide +kernel)]
  replace hs := ap_len hs 12
  generalize sh ++ [12] = sh at hs ⊢
  refine vLi_init_93 ?_
  refine vLi_init_95 (b' := (23, 253)) (by decide) rfl (r1 := 2770) (mem_gr (by decide +kernel)) ⟨fun q => absurd q (by decide), fun _ => ?_⟩
  rw [mem_len hs 9 3465 rfl, mem_nwl hs 9 3465 rfl rfl (by decide +kernel) (by decide +kernel)]
  replace hs := ap_len hs 9
  generalize sh ++ [9] = sh at hs ⊢
  refine sWo_init ?_
  refine vLi_init_113 rfl rfl ⟨vin (i := 0) (n := 24) (by decide) (by decide), ?_⟩
  rw [mem_sr]
  show X mLi_init 95 [(0, .ref 2689), (1, .int 1)] [] (mem sh n xs _ ((2770, 0, 3465) :: _)) _ _
  refine vLi_init_95 (b' := (22, 242)) (by decide) rfl (r1 := 2770) (mem_gr (by decide +kernel)) ⟨fun q => absurd q (by decide), fun _ => ?_⟩
  rw [mem_len hs 9 3529 rfl, mem_nwl hs 9 3529 rfl rfl (by decide +kernel) (by decide +kernel)]
  replace hs := ap_len hs 9
  generalize sh ++ [9] = sh at hs ⊢
  refine sWo_init ?_
  refine vLi_init_113 rfl rfl ⟨vin (i := 1) (n := 24) (by decide) (by decide), ?_⟩
  rw [mem_sr]
  show X mLi_init 95 [(0, .ref 2689), (1, .int 2)] [] (mem sh n xs _ ((2770, 1, 3529) :: _)) _ _
  refine vLi_init_95 (b' := (21, 231)) (by decide) rfl (r1 := 2770) (mem_gr (by decide +kernel)) ⟨fun q => absurd q (by decide), fun _ => ?_⟩
  rw [mem_len hs 9 3593 rfl, mem_nwl hs 9 3593 rfl rfl (by decide +kernel) (by decide +kernel)]
  replace hs := ap_len hs 9
  generalize sh ++ [9] = sh at hs ⊢
  refine sWo_init ?_
  refine vLi_init_113 rfl rfl ⟨vin (i := 2) (n := 24) (by decide) (by decide), ?_⟩
  rw [mem_sr]
  show X mLi_init 95 [(0, .ref 2689), (1, .int 3)] [] (mem sh n xs _ ((2770, 2, 3593) :: _)) _ _
  refine vLi_init_95 (b' := (20, 220)) (by decide) rfl (r1 := 2770) (mem_gr (by decide +kernel)) ⟨fun q => absurd q (by decide), fun _ => ?_⟩
  rw [mem_len hs 9 3657 rfl, mem_nwl hs 9 3657 rfl rfl (by decide +kernel) (by decide +kernel)]
  replace hs := ap_len hs 9
  generalize sh ++ [9] = sh at hs ⊢
  refine sWo_init ?_
  refine vLi_init_113 rfl rfl ⟨vin (i := 3) (n := 24) (by decide) (by decide), ?_⟩
  rw [mem_sr]
  show X mLi_init 95 [(0, .ref 2689), (1, .int 4)] [] (mem sh n xs _ ((2770, 3, 3657) :: _)) _ _
  refine vLi_init_95 (b' := (19, 209)) (by decide) rfl (r1 := 2770) (mem_gr (by decide +kernel)) ⟨fun q => absurd q (by decide), fun _ => ?_⟩
  rw [mem_len hs 9 3721 rfl, mem_nwl hs 9 3721 rfl rfl (by decide +kernel) (by decide +kernel)]
  replace hs := ap_len hs 9
  generalize sh ++ [9] = sh at hs ⊢
  refine sWo_init ?_
  refine vLi_init_113 rfl rfl ⟨vin (i := 4) (n := 24) (by decide) (by decide), ?_⟩
  rw [mem_sr]
  show X mLi_init 95 [(0, .ref 2689), (1, .int 5)] [] (mem sh n xs _ ((2770, 4, 3721) :: _)) _ _
  refine vLi_init_95 (b' := (18, 198)) (by decide) rfl (r1 := 2770) (mem_gr (by decide +kernel)) ⟨fun q => absurd q (by decide), fun _ => ?_⟩
  rw [mem_len hs 9 3785 rfl, mem_nwl hs 9 3785 rfl rfl (by decide +kernel) (by decide +kernel)]
  replace hs := ap_len hs 9
  generalize sh ++ [9] = sh at hs ⊢
  refine sWo_init ?_
  refine vLi_init_113 rfl rfl ⟨vin (i := 5) (n := 24) (by decide) (by decide), ?_⟩
  rw [mem_sr]
  show X mLi_init 95 [(0, .ref 2689), (1, .int 6)] [] (mem sh n xs _ ((2770, 5, 3785) :: _)) _ _
  refine vLi_init_95 (b' := (17, 187)) (by decide) rfl (r1 := 2770) (mem_gr (by decide +kernel)) ⟨fun q => absurd q (by decide), fun _ => ?_⟩
  rw [mem_len hs 9 3849 rfl, mem_nwl hs 9 3849 rfl rfl (by decide +kernel) (by decide +kernel)]
  replace hs := ap_len hs 9
  generalize sh ++ [9] = sh at hs ⊢
  refine sWo_init ?_
  refine vLi_init_113 rfl rfl ⟨vin (i := 6) (n := 24) (by decide) (by decide), ?_⟩
  rw [mem_sr]
  show X mLi_init 95 [(0, .ref 2689), (1, .int 7)] [] (mem sh n xs _ ((2770, 6, 3849) :: _)) _ _
  refine vLi_init_95 (b' := (16, 176)) (by decide) rfl (r1 := 2770) (mem_gr (by decide +kernel)) ⟨fun q => absurd q (by decide), fun _ => ?_⟩
  rw [mem_len hs 9 3913 rfl, mem_nwl hs 9 3913 rfl rfl (by decide +kernel) (by decide +kernel)]
  replace hs := ap_len hs 9
  generalize sh ++ [9] = sh at hs ⊢
  refine sWo_init ?_
  refine vLi_init_113 rfl rfl ⟨vin (i := 7) (n := 24) (by decide) (by decide), ?_⟩
  rw [mem_sr]
  show X mLi_init 95 [(0, .ref 2689), (1, .int 8)] [] (mem sh n xs _ ((2770, 7, 3913) :: _)) _ _
  refine vLi_init_95 (b' := (15, 165)) (by decide) rfl (r1 := 2770) (mem_gr (by decide +kernel)) ⟨fun q => absurd q (by decide), fun _ => ?_⟩
  rw [mem_len hs 9 3977 rfl, mem_nwl hs 9 3977 rfl rfl (by decide +kernel) (by decide +kernel)]
  replace hs := ap_len hs 9
  generalize sh ++ [9] = sh at hs ⊢
  refine sWo_init ?_
  refine vLi_init_113 rfl rfl ⟨vin (i := 8) (n := 24) (by decide) (by decide), ?_⟩
  rw [mem_sr]
  show X mLi_init 95 [(0, .ref 2689), (1, .int 9)] [] (mem sh n xs _ ((2770, 8, 3977) :: _)) _ _
  refine vLi_init_95 (b' := (14, 154)) (by decide) rfl (r1 := 2770) (mem_gr (by decide +kernel)) ⟨fun q => absurd q (by decide), fun _ => ?_⟩
  rw [mem_len hs 9 4041 rfl, mem_nwl hs 9 4041 rfl rfl (by decide +kernel) (by decide +kernel)]
  replace hs := ap_len hs 9
  generalize sh ++ [9] = sh at hs ⊢
  refine sWo_init ?_
  refine vLi_init_113 rfl rfl ⟨vin (i := 9) (n := 24) (by decide) (by decide), ?_⟩
  rw [mem_sr]
  show X mLi_init 95 [(0, .ref 2689), (1, .int 10)] [] (mem sh n xs _ ((2770, 9, 4041) :: _)) _ _
  refine vLi_init_95 (b' := (13, 143)) (by decide) rfl (r1 := 2770) (mem_gr (by decide +kernel)) ⟨fun q => absurd q (by decide), fun _ => ?_⟩
  rw [mem_len hs 9 4105 rfl, mem_nwl hs 9 4105 rfl rfl (by decide +kernel) (by decide +kernel)]
  replace hs := ap_len hs 9
  generalize sh ++ [9] = sh at hs ⊢
  refine sWo_init ?_
  refine vLi_init_113 rfl rfl ⟨vin (i := 10) (n := 24) (by decide) (by decide), ?_⟩
  rw [mem_sr]
  show X mLi_init 95 [(0, .ref 2689), (1, .int 11)] [] (mem sh n xs _ ((2770, 10, 4105) :: _)) _ _
  refine vLi_init_95 (b' := (12, 132)) (by decide) rfl (r1 := 2770) (mem_gr (by decide +kernel)) ⟨fun q => absurd q (by decide), fun _ => ?_⟩
  rw [mem_len hs 9 4169 rfl, mem_nwl hs 9 4169 rfl rfl (by decide +kernel) (by decide +kernel)]
  replace hs := ap_len hs 9
  generalize sh ++ [9] = sh at hs ⊢
  refine sWo_init ?_
  refine vLi_init_113 rfl rfl ⟨vin (i := 11) (n := 24) (by decide) (by decide), ?_⟩
  rw [mem_sr]
  show X mLi_init 95 [(0, .ref 2689), (1, .int 12)] [] (mem sh n xs _ ((2770, 11, 4169) :: _)) _ _
  refine vLi_init_95 (b' := (11, 121)) (by decide) rfl (r1 := 2770) (mem_gr (by decide +kernel)) ⟨fun q => absurd q (by decide), fun _ => ?_⟩
  rw [mem_len hs 9 4233 rfl, mem_nwl hs 9 4233 rfl rfl (by decide +kernel) (by decide +kernel)]
  replace hs := ap_len hs 9
  generalize sh ++ [9] = sh at hs ⊢
  refine sWo_init ?_
  refine vLi_init_113 rfl rfl ⟨vin (i := 12) (n := 24) (by decide) (by decide), ?_⟩
  rw [mem_sr]
  show X mLi_init 95 [(0, .ref 2689), (1, .int 13)] [] (mem sh n xs _ ((2770, 12, 4233) :: _)) _ _
  refine vLi_init_95 (b' := (10, 110)) (by decide) rfl (r1 := 2770) (mem_gr (by decide +kernel)) ⟨fun q => absurd q (by decide), fun _ => ?_⟩
  rw [mem_len hs 9 4297 rfl, mem_nwl hs 9 4297 rfl rfl (by decide +kernel) (by decide +kernel)]
  replace hs := ap_len hs 9
  generalize sh ++ [9] = sh at hs ⊢
  refine sWo_init ?_
  refine vLi_init_113 rfl rfl ⟨vin (i := 13) (n := 24) (by decide) (by decide), ?_⟩
  rw [mem_sr]
  show X mLi_init 95 [(0, .ref 2689), (1, .int 14)] [] (mem sh n xs _ ((2770, 13, 4297) :: _)) _ _
  refine vLi_init_95 (b' := (9, 99)) (by decide) rfl (r1 := 2770) (mem_gr (by decide +kernel)) ⟨fun q => absurd q (by decide), fun _ => ?_⟩
  rw [mem_len hs 9 4361 rfl, mem_nwl hs 9 4361 rfl rfl (by decide +kernel) (by decide +kernel)]
  replace hs := ap_len hs 9
  generalize sh ++ [9] = sh at hs ⊢
  refine sWo_init ?_
  refine vLi_init_113 rfl rfl ⟨vin (i := 14) (n := 24) (by decide) (by decide), ?_⟩
  rw [mem_sr]
  show X mLi_init 95 [(0, .ref 2689), (1, .int 15)] [] (mem sh n xs _ ((2770, 14, 4361) :: _)) _ _
  refine vLi_init_95 (b' := (8, 88)) (by decide) rfl (r1 := 2770) (mem_gr (by decide +kernel)) ⟨fun q => absurd q (by decide), fun _ => ?_⟩
  rw [mem_len hs 9 4425 rfl, mem_nwl hs 9 4425 rfl rfl (by decide +kernel) (by decide +kernel)]
  replace hs := ap_len hs 9
  generalize sh ++ [9] = sh at hs ⊢
  refine sWo_init ?_
  refine vLi_init_113 rfl rfl ⟨vin (i := 15) (n := 24) (by decide) (by decide), ?_⟩
  rw [mem_sr]
  show X mLi_init 95 [(0, .ref 2689), (1, .int 16)] [] (mem sh n xs _ ((2770, 15, 4425) :: _)) _ _
  refine vLi_init_95 (b' := (7, 77)) (by decide) rfl (r1 := 2770) (mem_gr (by decide +kernel)) ⟨fun q => absurd q (by decide), fun _ => ?_⟩
  rw [mem_len hs 9 4489 rfl, mem_nwl hs 9 4489 rfl rfl (by decide +kernel) (by decide +kernel)]
  replace hs := ap_len hs 9
  generalize sh ++ [9] = sh at hs ⊢
  refine sWo_init ?_
  refine vLi_init_113 rfl rfl ⟨vin (i := 16) (n := 24) (by decide) (by decide), ?_⟩
  rw [mem_sr]
  show X mLi_init 95 [(0, .ref 2689), (1, .int 17)] [] (mem sh n xs _ ((2770, 16, 4489) :: _)) _ _
  refine vLi_init_95 (b' := (6, 66)) (by decide) rfl (r1 := 2770) (mem_gr (by decide +kernel)) ⟨fun q => absurd q (by decide), fun _ => ?_⟩
  rw [mem_len hs 9 4553 rfl, mem_nwl hs 9 4553 rfl rfl (by decide +kernel) (by decide +kernel)]
  replace hs := ap_len hs 9
  generalize sh ++ [9] = sh at hs ⊢
  refine sWo_init ?_
  refine vLi_init_113 rfl rfl ⟨vin (i := 17) (n := 24) (by decide) (by decide), ?_⟩
  rw [mem_sr]
  show X mLi_init 95 [(0, .ref 2689), (1, .int 18)] [] (mem sh n xs _ ((2770, 17, 4553) :: _)) _ _
  refine vLi_init_95 (b' := (5, 55)) (by decide) rfl (r1 := 2770) (mem_gr (by decide +kernel)) ⟨fun q => absurd q (by decide), fun _ => ?_⟩
  rw [mem_len hs 9 4617 rfl, mem_nwl hs 9 4617 rfl rfl (by decide +kernel) (by decide +kernel)]
  replace hs := ap_len hs 9
  generalize sh ++ [9] = sh at hs ⊢
  refine sWo_init ?_
  refine vLi_init_113 rfl rfl ⟨vin (i := 18) (n := 24) (by decide) (by decide), ?_⟩
  rw [mem_sr]
  show X mLi_init 95 [(0, .ref 2689), (1, .int 19)] [] (mem sh n xs _ ((2770, 18, 4617) :: _)) _ _
  refine vLi_init_95 (b' := (4, 44)) (by decide) rfl (r1 := 2770) (mem_gr (by decide +kernel)) ⟨fun q => absurd q (by decide), fun _ => ?_⟩
  rw [mem_len hs 9 4681 rfl, mem_nwl hs 9 4681 rfl rfl (by decide +kernel) (by decide +kernel)]
  replace hs := ap_len hs 9
  generalize sh ++ [9] = sh at hs ⊢
  refine sWo_init ?_
  refine vLi_init_113 rfl rfl ⟨vin (i := 19) (n := 24) (by decide) (by decide), ?_⟩
  rw [mem_sr]
  show X mLi_init 95 [(0, .ref 2689), (1, .int 20)] [] (mem sh n xs _ ((2770, 19, 4681) :: _)) _ _
  refine vLi_init_95 (b' := (3, 33)) (by decide) rfl (r1 := 2770) (mem_gr (by decide +kernel)) ⟨fun q => absurd q (by decide), fun _ => ?_⟩
  rw [mem_len hs 9 4745 rfl, mem_nwl hs 9 4745 rfl rfl (by decide +kernel) (by decide +kernel)]
  replace hs := ap_len hs 9
  generalize sh ++ [9] = sh at hs ⊢
  refine sWo_init ?_
  refine vLi_init_113 rfl rfl ⟨vin (i := 20) (n := 24) (by decide) (by decide), ?_⟩
  rw [mem_sr]
  show X mLi_init 95 [(0, .ref 2689), (1, .int 21)] [] (mem sh n xs _ ((2770, 20, 4745) :: _)) _ _
  refine vLi_init_95 (b' := (2, 22)) (by decide) rfl (r1 := 2770) (mem_gr (by decide +kernel)) ⟨fun q => absurd q (by decide), fun _ => ?_⟩
  rw [mem_len hs 9 4809 rfl, mem_nwl hs 9 4809 rfl rfl (by decide +kernel) (by decide +kernel)]
  replace hs := ap_len hs 9
  generalize sh ++ [9] = sh at hs ⊢
  refine sWo_init ?_
  refine vLi_init_113 rfl rfl ⟨vin (i := 21) (n := 24) (by decide) (by decide), ?_⟩
  rw [mem_sr]
  show X mLi_init 95 [(0, .ref 2689), (1, .int 22)] [] (mem sh n xs _ ((2770, 21, 4809) :: _)) _ _
  refine vLi_init_95 (b' := (1, 11)) (by decide) rfl (r1 := 2770) (mem_gr (by decide +kernel)) ⟨fun q => absurd q (by decide), fun _ => ?_⟩
  rw [mem_len hs 9 4873 rfl, mem_nwl hs 9 4873 rfl rfl (by decide +kernel) (by decide +kernel)]
  replace hs := ap_len hs 9
  generalize sh ++ [9] = sh at hs ⊢
  refine sWo_init ?_
  refine vLi_init_113 rfl rfl ⟨vin (i := 22) (n := 24) (by decide) (by decide), ?_⟩
  rw [mem_sr]
  show X mLi_init 95 [(0, .ref 2689), (1, .int 23)] [] (mem sh n xs _ ((2770, 22, 4873) :: _)) _ _
  refine vLi_init_95 (b' := (0, 0)) (by decide) rfl (r1 := 2770) (mem_gr (by decide +kernel)) ⟨fun q => absurd q (by decide), fun _ => ?_⟩
  rw [mem_len hs 9 4937 rfl, mem_nwl hs 9 4937 rfl rfl (by decide +kernel) (by decide +kernel)]
  replace hs := ap_len hs 9
  generalize sh ++ [9] = sh at hs ⊢
  refine sWo_init ?_
  refine vLi_init_113 rfl rfl ⟨vin (i := 23) (n := 24) (by decide) (by decide), ?_⟩
  rw [mem_sr]
  show X mLi_init 95 [(0, .ref 2689), (1, .int 24)] [] (mem sh n xs _ ((2770, 23, 4937) :: _)) _ _
  refine vLi_end95 rfl (by decide) ?_
  have hl := mem_lr (sh := sh) (n := n) (xs := xs) (I := lbI0) (G := lbG1) (r := 2689) rfl (by decide +kernel) (by decide +kernel)
  refine sLi_clear hl ?_
  rw [mem_si rfl, mem_fl rfl]
  refine vLi_init_124 rfl ?_
  refine sLi_settle0 hl ((mem_gi rfl).trans (by decide +kernel)) ?_
  unfold st0 al0 so0 fr0 sw0
  rw [mem_fl rfl, mem_fl rfl, mem_si rfl, mem_si rfl, mem_si rfl, mem_si rfl, mem_fl rfl, mem_fl rfl, mem_fl rfl, mem_fl rfl, mem_fl rfl]
  refine vLi_init_128 ?_
  exact h sh hs
def lcI : List (Nat × Nat × Nat × Int32) := [(5893, 1, 2, -4), (5765, 1, 2, -4), (5637, 1, 2, -4), (5509, 1, 2, -4), (10, 9, 10, 255), (5123, 6, 7, 1), (5123, 5, 6, -4), (5123, 4, 5, -4), (5123, 3, 4, 0), (5123, 2, 3, 0), (5123, 1, 2, 2), (5123, 0, 1, 31), (5059, 6, 7, 1), (5059, 5, 6, -4), (5059, 4, 5, -4), (5059, 3, 4, 0), (5059, 2, 3, 0), (5059, 1, 2, 2), (5059, 0, 1, 31), (4995, 6, 7, 1), (4995, 5, 6, -4), (4995, 4, 5, -4), (4995, 3, 4, 0), (4995, 2, 3, 0), (4995, 1, 2, 2), (4995, 0, 1, 31), (3086, 0, 64, -4), (3022, 0, 64, -4), (3279, 0, 7, 0), (2958, 0, 64, 0), (2894, 0, 64, 0), (2689, 13, 14, 0), (2689, 12, 13, 0), (2689, 11, 12, 0), (2689, 10, 11, 0), (3213, 0, 8, 0), (3149, 0, 8, 0), (2829, 0, 8, 2), (2689, 1, 2, 0), (782, 0, 64, -4), (718, 0, 64, -4), (975, 0, 7, 0), (654, 0, 64, 0), (590, 0, 64, 0), (385, 13, 14, 0), (385, 12, 13, 0), (385, 11, 12, 0), (385, 10, 11, 0), (909, 0, 8, 0), (845, 0, 8, 0), (525, 0, 8, 2), (385, 1, 2, 0)]
def lcG : List (Nat × Nat × Nat) := [(5459, 3, 5893), (5893, 0, 5972), (5459, 2, 5765), (5765, 0, 5844), (5459, 1, 5637), (5637, 0, 5716), (5459, 0, 5509), (5509, 0, 5588), (10, 13, 5459), (10, 12, 5312), (5312, 0, 5192), (5312, 1, 5392), (10, 11, 5192), (5192, 1, 4995), (5192, 0, 385), (5192, 3, 5261), (10, 8, 5123), (10, 7, 5059), (10, 6, 4995), (10, 5, 2689), (2770, 23, 4937), (2770, 22, 4873), (2770, 21, 4809), (2770, 20, 4745), (2770, 19, 4681), (2770, 18, 4617), (2770, 17, 4553), (2770, 16, 4489), (2770, 15, 4425), (2770, 14, 4361), (2770, 13, 4297), (2770, 12, 4233), (2770, 11, 4169), (2770, 10, 4105), (2770, 9, 4041), (2770, 8, 3977), (2770, 7, 3913), (2770, 6, 3849), (2770, 5, 3785), (2770, 4, 3721), (2770, 3, 3657), (2770, 2, 3593), (2770, 1, 3529), (2770, 0, 3465), (2689, 15, 3404), (2689, 14, 3340), (2689, 9, 3279), (2689, 8, 3213), (2689, 7, 3149), (2689, 6, 3086), (2689, 5, 3022), (2689, 4, 2958), (2689, 3, 2894), (2689, 2, 2829), (2689, 0, 2770), (10, 4, 385), (466, 23, 2633), (466, 22, 2569), (466, 21, 2505), (466, 20, 2441), (466, 19, 2377), (466, 18, 2313), (466, 17, 2249), (466, 16, 2185), (466, 15, 2121), (466, 14, 2057), (466, 13, 1993), (466, 12, 1929), (466, 11, 1865), (466, 10, 1801), (466, 9, 1737), (466, 8, 1673), (466, 7, 1609), (466, 6, 1545), (466, 5, 1481), (466, 4, 1417), (466, 3, 1353), (466, 2, 1289), (466, 1, 1225), (466, 0, 1161), (385, 15, 1100), (385, 14, 1036), (385, 9, 975), (385, 8, 909), (385, 7, 845), (385, 6, 782), (385, 5, 718), (385, 4, 654), (385, 3, 590), (385, 2, 525), (385, 0, 466), (10, 3, 324), (324, 0, 199), (10, 2, 258), (258, 0, 199), (10, 1, 199), (199, 0, 70), (10, 0, 70), (70, 0, 145)]
set_option maxRecDepth 20000 in
theorem sC_init {sh : List Nat} {n : Nat} {xs : Nat → Int32} {K : Mm → Prop} (hs : sh.length = 1) (h : ∀ sh : List Nat, sh.length = 94 → K (mem sh n xs lcI lcG)) : CV mC_init [.ref 10] (mem sh n xs [] []) K := by
  refine call_of rfl (Nat.le_of_ble_eq_true rfl) rfl ?_
  refine vC_init_0 ?_
  refine vC_init_4 (b' := (91, 2529)) (by decide) ?_
  rw [mem_len hs 6 70 rfl, mem_nwl hs 6 70 rfl rfl (by decide +kernel) (by decide +kernel)]
  replace hs := ap_len hs 6
  generalize sh ++ [6] = sh at hs ⊢
  refine sTa_init rfl ?_
  rw [mem_new hs 17 145 rfl rfl (by decide +kernel) (by decide +kernel)]
  replace hs := ap_len hs 17
  generalize sh ++ [17] = sh at hs ⊢
  refine vC_init_12 rfl rfl ?_
  rw [mem_sr]
  refine vC_init_15 (b' := (90, 2522)) (by decide) rfl ?_
  rw [mem_len hs 7 199 rfl, mem_nwl hs 7 199 rfl rfl (by decide +kernel) (by decide +kernel)]
  replace hs := ap_len hs 7
  generalize sh ++ [7] = sh at hs ⊢
  refine ⟨70, mem_gr (by decide +kernel), ?_⟩
  refine sTo_init rfl rfl ?_
  rw [mem_sr]
  refine vC_init_27 rfl rfl ?_
  rw [mem_sr]
  refine vC_init_30 (b' := (89, 2520)) (by decide) rfl ?_
  rw [mem_len hs 2 258 rfl, mem_nwl hs 2 258 rfl rfl (by decide +kernel) (by decide +kernel)]
  replace hs := ap_len hs 2
  generalize sh ++ [2] = sh at hs ⊢
  refine ⟨199, mem_gr (by decide +kernel), ?_⟩
  refine sLr_init rfl rfl ?_
  rw [mem_sr]
  refine vC_init_42 rfl rfl ?_
  rw [mem_sr]
  refine vC_init_45 (b' := (88, 2519)) (by decide) rfl ?_
  rw [mem_len hs 4 324 rfl, mem_nwl hs 4 324 rfl rfl (by decide +kernel) (by decide +kernel)]
  replace hs := ap_len hs 4
  generalize sh ++ [4] = sh at hs ⊢
  refine ⟨199, mem_gr (by decide +kernel), ?_⟩
  refine sRr_init rfl rfl ?_
  rw [mem_sr]
  refine vC_init_57 rfl rfl ?_
  rw [mem_sr]
  refine vC_init_60 (b' := (52, 1880)) (by decide) ?_
  rw [mem_len hs 1 385 rfl, mem_nwl hs 1 385 rfl rfl (by decide +kernel) (by decide +kernel)]
  replace hs := ap_len hs 1
  generalize sh ++ [1] = sh at hs ⊢
  refine sLi_init_A hs (fun sh hs => ?_)
  refine vC_init_68 rfl rfl ?_
  rw [mem_sr]
  refine vC_init_71 (b' := (16, 1241)) (by decide) ?_
  rw [mem_len hs 1 2689 rfl, mem_nwl hs 1 2689 rfl rfl (by decide +kernel) (by decide +kernel)]
  replace hs := ap_len hs 1
  generalize sh ++ [1] = sh at hs ⊢
  refine sLi_init_B hs (fun sh hs => ?_)
  refine vC_init_79 rfl rfl ?_
  rw [mem_sr]
  refine vC_init_82 (b' := (15, 1234)) (by decide) ?_
  rw [mem_len hs 3 4995 rfl, mem_nwl hs 3 4995 rfl rfl (by decide +kernel) (by decide +kernel)]
  replace hs := ap_len hs 3
  generalize sh ++ [3] = sh at hs ⊢
  refine sRu_init rfl ?_
  rw [mem_si rfl]
  rw [mem_si rfl]
  rw [mem_si rfl]
  rw [mem_si rfl]
  rw [mem_si rfl]
  rw [mem_si rfl]
  rw [mem_si rfl]
  refine vC_init_90 rfl rfl ?_
  rw [mem_sr]
  refine vC_init_93 (b' := (14, 1227)) (by decide) ?_
  rw [mem_len hs 3 5059 rfl, mem_nwl hs 3 5059 rfl rfl (by decide +kernel) (by decide +kernel)]
  replace hs := ap_len hs 3
  generalize sh ++ [3] = sh at hs ⊢
  refine sRu_init rfl ?_
  rw [mem_si rfl]
  rw [mem_si rfl]
  rw [mem_si rfl]
  rw [mem_si rfl]
  rw [mem_si rfl]
  rw [mem_si rfl]
  rw [mem_si rfl]
  refine vC_init_101 rfl rfl ?_
  rw [mem_sr]
  refine vC_init_104 (b' := (13, 1220)) (by decide) ?_
  rw [mem_len hs 3 5123 rfl, mem_nwl hs 3 5123 rfl rfl (by decide +kernel) (by decide +kernel)]
  replace hs := ap_len hs 3
  generalize sh ++ [3] = sh at hs ⊢
  refine sRu_init rfl ?_
  rw [mem_si rfl]
  rw [mem_si rfl]
  rw [mem_si rfl]
  rw [mem_si rfl]
  rw [mem_si rfl]
  rw [mem_si rfl]
  rw [mem_si rfl]
  refine vC_init_112 rfl rfl ?_
  rw [mem_sr]
  refine vC_init_115 (b' := (11, 1202)) (by decide) rfl ?_
  rw [mem_si rfl]
  rw [mem_len hs 8 5192 rfl, mem_nwl hs 8 5192 rfl rfl (by decide +kernel) (by decide +kernel)]
  replace hs := ap_len hs 8
  generalize sh ++ [8] = sh at hs ⊢
  refine ⟨385, mem_gr (by decide +kernel), 4995, mem_gr (by decide +kernel), ?_⟩
  refine sWe_init rfl rfl rfl ?_
  rw [mem_new hs 13 5261 rfl rfl (by decide +kernel) (by decide +kernel)]
  replace hs := ap_len hs 13
  generalize sh ++ [13] = sh at hs ⊢
  rw [mem_sr]
  rw [mem_sr]
  refine vC_init_138 rfl rfl ?_
  rw [mem_sr]
  refine vC_init_141 (b' := (9, 176)) (by decide) rfl ?_
  rw [mem_len hs 0 5312 rfl, mem_nwl hs 0 5312 rfl rfl (by decide +kernel) (by decide +kernel)]
  replace hs := ap_len hs 0
  generalize sh ++ [0] = sh at hs ⊢
  refine ⟨5192, mem_gr (by decide +kernel), ?_⟩
  refine sFi_init rfl rfl ?_
  rw [mem_new hs 16 5392 rfl rfl (by decide +kernel) (by decide +kernel)]
  replace hs := ap_len hs 16
  generalize sh ++ [16] = sh at hs ⊢
  rw [mem_sr]
  refine vC_init_153 rfl rfl ?_
  rw [mem_sr]
  refine vC_init_156 (b' := (8, 172)) (by decide) rfl ?_
  rw [mem_new hs 19 5459 rfl rfl (by decide +kernel) (by decide +kernel)]
  replace hs := ap_len hs 19
  generalize sh ++ [19] = sh at hs ⊢
  refine vC_init_164 ?_
  refine vC_init_166 (b' := (6, 129)) (by decide) rfl (r1 := 5459) (mem_gr (by decide +kernel)) ⟨fun q => absurd q (by decide), fun _ => ?_⟩
  rw [mem_len hs 5 5509 rfl, mem_nwl hs 5 5509 rfl rfl (by decide +kernel) (by decide +kernel)]
  replace hs := ap_len hs 5
  generalize sh ++ [5] = sh at hs ⊢
  refine sSh_init rfl ?_
  rw [mem_new hs 20 5588 rfl rfl (by decide +kernel) (by decide +kernel)]
  replace hs := ap_len hs 20
  generalize sh ++ [20] = sh at hs ⊢
  rw [mem_si rfl]
  refine vC_init_183 rfl rfl ⟨vin (i := 0) (n := 4) (by decide) (by decide), ?_⟩
  rw [mem_sr]
  show X mC_init 166 [(0, .ref 10), (1, .int 1)] [] (mem sh n xs _ ((5459, 0, 5509) :: _)) _ _
  refine vC_init_166 (b' := (4, 86)) (by decide) rfl (r1 := 5459) (mem_gr (by decide +kernel)) ⟨fun q => absurd q (by decide), fun _ => ?_⟩
  rw [mem_len hs 5 5637 rfl, mem_nwl hs 5 5637 rfl rfl (by decide +kernel) (by decide +kernel)]
  replace hs := ap_len hs 5
  generalize sh ++ [5] = sh at hs ⊢
  refine sSh_init rfl ?_
  rw [mem_new hs 20 5716 rfl rfl (by decide +kernel) (by decide +kernel)]
  replace hs := ap_len hs 20
  generalize sh ++ [20] = sh at hs ⊢
  rw [mem_si rfl]
  refine vC_init_183 rfl rfl ⟨vin (i := 1) (n := 4) (by decide) (by decide), ?_⟩
  rw [mem_sr]
  show X mC_init 166 [(0, .ref 10), (1, .int 2)] [] (mem sh n xs _ ((5459, 1, 5637) :: _)) _ _
  refine vC_init_166 (b' := (2, 43)) (by decide) rfl (r1 := 5459) (mem_gr (by decide +kernel)) ⟨fun q => absurd q (by decide), fun _ => ?_⟩
  rw [mem_len hs 5 5765 rfl, mem_nwl hs 5 5765 rfl rfl (by decide +kernel) (by decide +kernel)]
  replace hs := ap_len hs 5
  generalize sh ++ [5] = sh at hs ⊢
  refine sSh_init rfl ?_
  rw [mem_new hs 20 5844 rfl rfl (by decide +kernel) (by decide +kernel)]
  replace hs := ap_len hs 20
  generalize sh ++ [20] = sh at hs ⊢
  rw [mem_si rfl]
  refine vC_init_183 rfl rfl ⟨vin (i := 2) (n := 4) (by decide) (by decide), ?_⟩
  rw [mem_sr]
  show X mC_init 166 [(0, .ref 10), (1, .int 3)] [] (mem sh n xs _ ((5459, 2, 5765) :: _)) _ _
  refine vC_init_166 (b' := (0, 0)) (by decide) rfl (r1 := 5459) (mem_gr (by decide +kernel)) ⟨fun q => absurd q (by decide), fun _ => ?_⟩
  rw [mem_len hs 5 5893 rfl, mem_nwl hs 5 5893 rfl rfl (by decide +kernel) (by decide +kernel)]
  replace hs := ap_len hs 5
  generalize sh ++ [5] = sh at hs ⊢
  refine sSh_init rfl ?_
  rw [mem_new hs 20 5972 rfl rfl (by decide +kernel) (by decide +kernel)]
  replace hs := ap_len hs 20
  generalize sh ++ [20] = sh at hs ⊢
  rw [mem_si rfl]
  refine vC_init_183 rfl rfl ⟨vin (i := 3) (n := 4) (by decide) (by decide), ?_⟩
  rw [mem_sr]
  show X mC_init 166 [(0, .ref 10), (1, .int 4)] [] (mem sh n xs _ ((5459, 3, 5893) :: _)) _ _
  exact vC_end166 (by decide) (h sh hs)
end MG7
section MG8
def lmI0 : List (Nat × Nat × Nat × Int32) := [(6027, 9, 10, 255), (5893, 1, 2, -4), (5765, 1, 2, -4), (5637, 1, 2, -4), (5509, 1, 2, -4), (10, 9, 10, 255), (5123, 6, 7, 1), (5123, 5, 6, -4), (5123, 4, 5, -4), (5123, 3, 4, 0), (5123, 2, 3, 0), (5123, 1, 2, 2), (5123, 0, 1, 31), (5059, 6, 7, 1), (5059, 5, 6, -4), (5059, 4, 5, -4), (5059, 3, 4, 0), (5059, 2, 3, 0), (5059, 1, 2, 2), (5059, 0, 1, 31), (4995, 6, 7, 1), (4995, 5, 6, -4), (4995, 4, 5, -4), (4995, 3, 4, 0), (4995, 2, 3, 0), (4995, 1, 2, 2), (4995, 0, 1, 31), (3086, 0, 64, -4), (3022, 0, 64, -4), (3279, 0, 7, 0), (2958, 0, 64, 0), (2894, 0, 64, 0), (2689, 13, 14, 0), (2689, 12, 13, 0), (2689, 11, 12, 0), (2689, 10, 11, 0), (3213, 0, 8, 0), (3149, 0, 8, 0), (2829, 0, 8, 2), (2689, 1, 2, 0), (782, 0, 64, -4), (718, 0, 64, -4), (975, 0, 7, 0), (654, 0, 64, 0), (590, 0, 64, 0), (385, 13, 14, 0), (385, 12, 13, 0), (385, 11, 12, 0), (385, 10, 11, 0), (909, 0, 8, 0), (845, 0, 8, 0), (525, 0, 8, 2), (385, 1, 2, 0)]
def lmG : List (Nat × Nat × Nat) := [(6027, 42, 7773), (6027, 41, 7708), (6027, 40, 7644), (6027, 38, 7582), (6027, 37, 7502), (6027, 34, 7438), (6027, 33, 7374), (6027, 32, 7310), (6027, 31, 7246), (6027, 30, 7182), (6027, 29, 7131), (6027, 28, 7067), (6027, 27, 7003), (6027, 26, 6938), (6027, 25, 6874), (6027, 22, 6807), (6027, 21, 6745), (6027, 20, 6671), (6027, 19, 6607), (6027, 18, 6543), (6027, 10, 6486), (6027, 7, 6423), (6027, 6, 6360), (6027, 5, 6285), (6027, 4, 6229), (6027, 2, 6157), (6027, 1, 6101), (5459, 3, 5893), (5893, 0, 5972), (5459, 2, 5765), (5765, 0, 5844), (5459, 1, 5637), (5637, 0, 5716), (5459, 0, 5509), (5509, 0, 5588), (10, 13, 5459), (10, 12, 5312), (5312, 0, 5192), (5312, 1, 5392), (10, 11, 5192), (5192, 1, 4995), (5192, 0, 385), (5192, 3, 5261), (10, 8, 5123), (10, 7, 5059), (10, 6, 4995), (10, 5, 2689), (2770, 23, 4937), (2770, 22, 4873), (2770, 21, 4809), (2770, 20, 4745), (2770, 19, 4681), (2770, 18, 4617), (2770, 17, 4553), (2770, 16, 4489), (2770, 15, 4425), (2770, 14, 4361), (2770, 13, 4297), (2770, 12, 4233), (2770, 11, 4169), (2770, 10, 4105), (2770, 9, 4041), (2770, 8, 3977), (2770, 7, 3913), (2770, 6, 3849), (2770, 5, 3785), (2770, 4, 3721), (2770, 3, 3657), (2770, 2, 3593), (2770, 1, 3529), (2770, 0, 3465), (2689, 15, 3404), (2689, 14, 3340), (2689, 9, 3279), (2689, 8, 3213), (2689, 7, 3149), (2689, 6, 3086), (2689, 5, 3022), (2689, 4, 2958), (2689, 3, 2894), (2689, 2, 2829), (2689, 0, 2770), (10, 4, 385), (466, 23, 2633), (466, 22, 2569), (466, 21, 2505), (466, 20, 2441), (466, 19, 2377), (466, 18, 2313), (466, 17, 2249), (466, 16, 2185), (466, 15, 2121), (466, 14, 2057), (466, 13, 1993), (466, 12, 1929), (466, 11, 1865), (466, 10, 1801), (466, 9, 1737), (466, 8, 1673), (466, 7, 1609), (466, 6, 1545), (466, 5, 1481), (466, 4, 1417), (466, 3, 1353), (466, 2, 1289), (466, 1, 1225), (466, 0, 1161), (385, 15, 1100), (385, 14, 1036), (385, 9, 975), (385, 8, 909), (385, 7, 845), (385, 6, 782), (385, 5, 718), (385, 4, 654), (385, 3, 590), (385, 2, 525), (385, 0, 466), (10, 3, 324), (324, 0, 199), (10, 2, 258), (258, 0, 199), (10, 1, 199), (199, 0, 70), (10, 0, 70), (70, 0, 145)]
def lmI : List (Nat × Nat × Nat × Int32) := [(6607, 6, 7, 1), (6607, 5, 6, -4), (6607, 4, 5, -4), (6607, 3, 4, 0), (6607, 2, 3, 0), (6607, 1, 2, 2), (6607, 0, 1, 31), (6543, 6, 7, 1), (6543, 5, 6, -4), (6543, 4, 5, -4), (6543, 3, 4, 0), (6543, 2, 3, 0), (6543, 1, 2, 2), (6543, 0, 1, 31), (6671, 6, 7, 1), (6671, 5, 6, -4), (6671, 4, 5, -4), (6671, 3, 4, 0), (6671, 2, 3, 0), (6671, 1, 2, 2), (6671, 0, 1, 31), (6745, 0, 7, 0), (6027, 24, 25, 0), (6027, 23, 24, 0), (6027, 9, 10, 255), (6157, 0, 8, 2), (6101, 0, 250, 0), (6027, 0, 1, 0), (6360, 0, 8, 0), (6285, 0, 8, 2), (6027, 8, 9, 0), (6027, 3, 4, 0), (7644, 0, 4, -4), (6027, 9, 10, 255), (5893, 1, 2, -4), (5765, 1, 2, -4), (5637, 1, 2, -4), (5509, 1, 2, -4), (10, 9, 10, 255), (5123, 6, 7, 1), (5123, 5, 6, -4), (5123, 4, 5, -4), (5123, 3, 4, 0), (5123, 2, 3, 0), (5123, 1, 2, 2), (5123, 0, 1, 31), (5059, 6, 7, 1), (5059, 5, 6, -4), (5059, 4, 5, -4), (5059, 3, 4, 0), (5059, 2, 3, 0), (5059, 1, 2, 2), (5059, 0, 1, 31), (4995, 6, 7, 1), (4995, 5, 6, -4), (4995, 4, 5, -4), (4995, 3, 4, 0), (4995, 2, 3, 0), (4995, 1, 2, 2), (4995, 0, 1, 31), (3086, 0, 64, -4), (3022, 0, 64, -4), (3279, 0, 7, 0), (2958, 0, 64, 0), (2894, 0, 64, 0), (2689, 13, 14, 0), (2689, 12, 13, 0), (2689, 11, 12, 0), (2689, 10, 11, 0), (3213, 0, 8, 0), (3149, 0, 8, 0), (2829, 0, 8, 2), (2689, 1, 2, 0), (782, 0, 64, -4), (718, 0, 64, -4), (975, 0, 7, 0), (654, 0, 64, 0), (590, 0, 64, 0), (385, 13, 14, 0), (385, 12, 13, 0), (385, 11, 12, 0), (385, 10, 11, 0), (909, 0, 8, 0), (845, 0, 8, 0), (525, 0, 8, 2), (385, 1, 2, 0)]
def lmI1 : List (Nat × Nat × Nat × Int32) := [(6671, 6, 7, 1), (6671, 5, 6, -4), (6671, 4, 5, -4), (6671, 3, 4, 0), (6671, 2, 3, 0), (6671, 1, 2, 2), (6671, 0, 1, 31), (6745, 0, 7, 0), (6027, 24, 25, 0), (6027, 23, 24, 0), (6027, 9, 10, 255), (6157, 0, 8, 2), (6101, 0, 250, 0), (6027, 0, 1, 0), (6360, 0, 8, 0), (6285, 0, 8, 2), (6027, 8, 9, 0), (6027, 3, 4, 0), (7644, 0, 4, -4), (6027, 9, 10, 255), (5893, 1, 2, -4), (5765, 1, 2, -4), (5637, 1, 2, -4), (5509, 1, 2, -4), (10, 9, 10, 255), (5123, 6, 7, 1), (5123, 5, 6, -4), (5123, 4, 5, -4), (5123, 3, 4, 0), (5123, 2, 3, 0), (5123, 1, 2, 2), (5123, 0, 1, 31), (5059, 6, 7, 1), (5059, 5, 6, -4), (5059, 4, 5, -4), (5059, 3, 4, 0), (5059, 2, 3, 0), (5059, 1, 2, 2), (5059, 0, 1, 31), (4995, 6, 7, 1), (4995, 5, 6, -4), (4995, 4, 5, -4), (4995, 3, 4, 0), (4995, 2, 3, 0), (4995, 1, 2, 2), (4995, 0, 1, 31), (3086, 0, 64, -4), (3022, 0, 64, -4), (3279, 0, 7, 0), (2958, 0, 64, 0), (2894, 0, 64, 0), (2689, 13, 14, 0), (2689, 12, 13, 0), (2689, 11, 12, 0), (2689, 10, 11, 0), (3213, 0, 8, 0), (3149, 0, 8, 0), (2829, 0, 8, 2), (2689, 1, 2, 0), (782, 0, 64, -4), (718, 0, 64, -4), (975, 0, 7, 0), (654, 0, 64, 0), (590, 0, 64, 0), (385, 13, 14, 0), (385, 12, 13, 0), (385, 11, 12, 0), (385, 10, 11, 0), (909, 0, 8, 0), (845, 0, 8, 0), (525, 0, 8, 2), (385, 1, 2, 0)]
theorem mem_mr {sh : List Nat} {n : Nat} {xs : Nat → Int32} {I : List (Nat × Nat × Nat × Int32)} {G : List (Nat × Nat × Nat)} (h : ∀ q ∈ mrt, GK G 6027 q.1 = some q.2) : MR (mem sh n xs I G) := h
theorem LK_one {I : List (Nat × Nat × Nat × Int32)} {a m : Nat} {v : Int32} (h : I.filter (fun q => q.1 == a) = [(a, 0, m, v)]) {k : Nat} (hk : k < m) : LK I a k = v := by
  rw [LK_f, h, LK, if_pos ⟨rfl, Nat.zero_le _, hk⟩]
set_option maxRecDepth 20000 in
theorem mt_mem (sh : List Nat) {n : Nat} {xs : Nat → Int32} : mt0 (mem sh n xs lmI0 lmG) = mem sh n xs lmI lmG := by
  have e1 : mt1 (mem sh n xs lmI0 lmG) = mem sh n xs lmI1 lmG := by
    unfold mt1
    rw [mem_fl rfl]
    unfold fb0
    rw [mem_si rfl, mem_si rfl, mem_fl rfl, mem_fl rfl]
    unfold kb0 kb2 kb1
    rw [show gi (mem sh n xs _ lmG) 6027 3 = 0 from (mem_gi rfl).trans (by decide +kernel)]
    rw [rwm_c _ 6101 250 _ 0 (fun k hk => (mem_gi rfl).trans (LK_no (by decide +kernel) k))]
    rw [rwm_c _ 6157 8 _ 2 (fun k hk => (mem_gi rfl).trans (LK_one (by decide +kernel) hk))]
    rw [mem_si rfl, mem_fl rfl, mem_fl rfl, mem_si rfl, mem_si rfl, mem_si rfl]
    unfold fu0
    rw [mem_fl rfl, rwm7, mem_si rfl, mem_si rfl, mem_si rfl, mem_si rfl, mem_si rfl, mem_si rfl, mem_si rfl]
    rfl
  unfold mt0
  rw [e1]
  have e2 : ∀ k, k < 7 → gi (mem sh n xs lmI1 lmG) 6671 k = dv k := by
    intro k hk
    rw [mem_gi rfl]
    have : ∀ k, k < 7 → LK lmI1 6671 k = dv k := by decide +kernel
    exact this k hk
  rw [rwm_cg _ 6543 7 _ dv e2, rwm_cg _ 6607 7 _ dv e2]
  rw [rwm7 (mem sh n xs lmI1 lmG) 6543, mem_si rfl, mem_si rfl, mem_si rfl, mem_si rfl, mem_si rfl, mem_si rfl, mem_si rfl]
  rw [rwm7, mem_si rfl, mem_si rfl, mem_si rfl, mem_si rfl, mem_si rfl, mem_si rfl, mem_si rfl]
  rfl
set_option maxRecDepth 20000 in
theorem sM_init {sh : List Nat} {n : Nat} {xs : Nat → Int32} {K : Mm → Prop} (hs : sh.length = 95) (h : ∀ sh : List Nat, sh.length = 122 → K (mem sh n xs lmI lmG)) : CV mM_init [.ref 6027] (mem sh n xs lcI lcG) K := by
  refine call_of rfl (Nat.le_of_ble_eq_true rfl) rfl ?_
  refine vM_init_0 ?_
  refine vM_init_4 (b' := (26, 1634)) (by decide) rfl ?_
  rw [mem_new hs 21 6101 rfl rfl (by decide +kernel) (by decide +kernel)]
  replace hs := ap_len hs 21
  generalize sh ++ [21] = sh at hs ⊢
  refine vM_init_13 (b' := (25, 1626)) (by decide) rfl ?_
  rw [mem_new hs 13 6157 rfl rfl (by decide +kernel) (by decide +kernel)]
  replace hs := ap_len hs 13
  generalize sh ++ [13] = sh at hs ⊢
  refine vM_init_21 (b' := (24, 1376)) (by decide) rfl ?_
  rw [mem_new hs 21 6229 rfl rfl (by decide +kernel) (by decide +kernel)]
  replace hs := ap_len hs 21
  generalize sh ++ [21] = sh at hs ⊢
  refine vM_init_30 (b' := (23, 1368)) (by decide) rfl ?_
  rw [mem_new hs 13 6285 rfl rfl (by decide +kernel) (by decide +kernel)]
  replace hs := ap_len hs 13
  generalize sh ++ [13] = sh at hs ⊢
  refine vM_init_38 (b' := (22, 1360)) (by decide) rfl ?_
  rw [mem_new hs 24 6360 rfl rfl (by decide +kernel) (by decide +kernel)]
  replace hs := ap_len hs 24
  generalize sh ++ [24] = sh at hs ⊢
  refine vM_init_46 (b' := (21, 1335)) (by decide) rfl ?_
  rw [mem_new hs 23 6423 rfl rfl (by decide +kernel) (by decide +kernel)]
  replace hs := ap_len hs 23
  generalize sh ++ [23] = sh at hs ⊢
  refine vM_init_54 (b' := (20, 935)) (by decide) rfl ?_
  rw [mem_si rfl]
  rw [mem_new hs 22 6486 rfl rfl (by decide +kernel) (by decide +kernel)]
  replace hs := ap_len hs 22
  generalize sh ++ [22] = sh at hs ⊢
  refine vM_init_70 (b' := (19, 928)) (by decide) rfl ?_
  rw [mem_new hs 15 6543 rfl rfl (by decide +kernel) (by decide +kernel)]
  replace hs := ap_len hs 15
  generalize sh ++ [15] = sh at hs ⊢
  refine vM_init_78 (b' := (18, 921)) (by decide) rfl ?_
  rw [mem_new hs 15 6607 rfl rfl (by decide +kernel) (by decide +kernel)]
  replace hs := ap_len hs 15
  generalize sh ++ [15] = sh at hs ⊢
  refine vM_init_86 (b' := (17, 914)) (by decide) rfl ?_
  rw [mem_new hs 15 6671 rfl rfl (by decide +kernel) (by decide +kernel)]
  replace hs := ap_len hs 15
  generalize sh ++ [15] = sh at hs ⊢
  refine vM_init_94 (b' := (16, 907)) (by decide) rfl ?_
  rw [mem_new hs 25 6745 rfl rfl (by decide +kernel) (by decide +kernel)]
  replace hs := ap_len hs 25
  generalize sh ++ [25] = sh at hs ⊢
  refine vM_init_102 (b' := (15, 882)) (by decide) rfl ?_
  rw [mem_new hs 23 6807 rfl rfl (by decide +kernel) (by decide +kernel)]
  replace hs := ap_len hs 23
  generalize sh ++ [23] = sh at hs ⊢
  refine vM_init_110 (b' := (14, 857)) (by decide) rfl ?_
  rw [mem_new hs 26 6874 rfl rfl (by decide +kernel) (by decide +kernel)]
  replace hs := ap_len hs 26
  generalize sh ++ [26] = sh at hs ⊢
  refine vM_init_118 (b' := (13, 832)) (by decide) rfl ?_
  rw [mem_new hs 26 6938 rfl rfl (by decide +kernel) (by decide +kernel)]
  replace hs := ap_len hs 26
  generalize sh ++ [26] = sh at hs ⊢
  refine vM_init_126 (b' := (12, 824)) (by decide) rfl ?_
  rw [mem_new hs 27 7003 rfl rfl (by decide +kernel) (by decide +kernel)]
  replace hs := ap_len hs 27
  generalize sh ++ [27] = sh at hs ⊢
  refine vM_init_134 (b' := (11, 816)) (by decide) rfl ?_
  rw [mem_new hs 27 7067 rfl rfl (by decide +kernel) (by decide +kernel)]
  replace hs := ap_len hs 27
  generalize sh ++ [27] = sh at hs ⊢
  refine vM_init_142 (b' := (10, 808)) (by decide) rfl ?_
  rw [mem_new hs 27 7131 rfl rfl (by decide +kernel) (by decide +kernel)]
  replace hs := ap_len hs 27
  generalize sh ++ [27] = sh at hs ⊢
  refine vM_init_150 (b' := (9, 744)) (by decide) rfl ?_
  rw [mem_new hs 14 7182 rfl rfl (by decide +kernel) (by decide +kernel)]
  replace hs := ap_len hs 14
  generalize sh ++ [14] = sh at hs ⊢
  refine vM_init_158 (b' := (8, 680)) (by decide) rfl ?_
  rw [mem_new hs 14 7246 rfl rfl (by decide +kernel) (by decide +kernel)]
  replace hs := ap_len hs 14
  generalize sh ++ [14] = sh at hs ⊢
  refine vM_init_166 (b' := (7, 616)) (by decide) rfl ?_
  rw [mem_new hs 14 7310 rfl rfl (by decide +kernel) (by decide +kernel)]
  replace hs := ap_len hs 14
  generalize sh ++ [14] = sh at hs ⊢
  refine vM_init_174 (b' := (6, 552)) (by decide) rfl ?_
  rw [mem_new hs 14 7374 rfl rfl (by decide +kernel) (by decide +kernel)]
  replace hs := ap_len hs 14
  generalize sh ++ [14] = sh at hs ⊢
  refine vM_init_182 (b' := (5, 488)) (by decide) rfl ?_
  rw [mem_new hs 14 7438 rfl rfl (by decide +kernel) (by decide +kernel)]
  replace hs := ap_len hs 14
  generalize sh ++ [14] = sh at hs ⊢
  refine vM_init_190 (b' := (4, 424)) (by decide) rfl ?_
  rw [mem_new hs 14 7502 rfl rfl (by decide +kernel) (by decide +kernel)]
  replace hs := ap_len hs 14
  generalize sh ++ [14] = sh at hs ⊢
  refine vM_init_198 (b' := (3, 168)) (by decide) rfl ?_
  rw [mem_new hs 30 7582 rfl rfl (by decide +kernel) (by decide +kernel)]
  replace hs := ap_len hs 30
  generalize sh ++ [30] = sh at hs ⊢
  refine vM_init_207 (b' := (2, 164)) (by decide) rfl ?_
  rw [mem_new hs 28 7644 rfl rfl (by decide +kernel) (by decide +kernel)]
  replace hs := ap_len hs 28
  generalize sh ++ [28] = sh at hs ⊢
  refine vM_init_214 (b' := (1, 160)) (by decide) rfl ?_
  rw [mem_new hs 28 7708 rfl rfl (by decide +kernel) (by decide +kernel)]
  replace hs := ap_len hs 28
  generalize sh ++ [28] = sh at hs ⊢
  refine vM_init_221 (b' := (0, 0)) (by decide) rfl ?_
  rw [mem_new hs 29 7773 rfl rfl (by decide +kernel) (by decide +kernel)]
  replace hs := ap_len hs 29
  generalize sh ++ [29] = sh at hs ⊢
  refine sM_init_tail (mem_mr (by decide +kernel)) ?_
  have hh := h sh hs
  rw [← mt_mem sh] at hh
  exact hh
end MG8
