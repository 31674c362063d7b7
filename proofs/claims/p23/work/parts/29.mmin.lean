theorem x_mmin {m : MI} {pc : Nat} {L : List (Nat × Value)} {S : List Value} {M : Mm} {b : Nat × Nat} {Q : Option Value → Mm → Prop} {i : Nat} {x y : Int32} (hd : decode (mB m) pc = .ok (.invokestatic i, 3)) (hl : Cond.methodLink (mY m).cls i (mY mJm_min) ∈ TG) (hf : 1 ≤ mF m) (hcat : (S.map fun v => v.category).sum + 13 ≤ mO m) (h : X m (pc + 3) L (.int (if y < x then y else x) :: S) M b Q) : X m pc L (.int y :: .int x :: S) M b Q := by
  intro g p l e R s mid args below meth cc Z C hR H locs cells slots ls hH hw hL hS hl2 hss hc hc2
  have hts := C.2.2.2.2.1
  obtain ⟨f1, f2, f3, f4⟩ := C.2.2.2.2.2.1
  have K := h g p l e R s mid args below meth cc Z C hR H locs cells slots ls hH hw hL (ok1 (tl (tl hS)) trivial) hl2 hss hc hc2
  have h1 : (Cond.methodLink (mY m).cls i Lib.Math.min.name).before args s = true := hts _ hl
  have h2 : (Cond.static Lib.Math.min.name).before args s = true := hts _ hJm_min.2
  have h3 : (Cond.initialized "java/lang/Math").before args s = true := hts _ gJm_min.2.1
  have h4 : (Cond.code Lib.Math.min.name Lib.Math.min.code 2 (some .int)).before args s = true := by
    have := hts _ gJm_min.1
    have e : mB mJm_min = Lib.Math.min.code := by decide +kernel
    rw [e] at this
    exact this
  exact va_mmin (rest := S.map (cz g)) C.1 C.2.1 (C.2.2.1.trans hl2.1.symm) C.2.2.2.1 h1 h2 h3 h4 (Nat.le_trans hf f1) (by rw [cat_cz]; omega) (by omega) (by omega) hd K

theorem uC_widest_40 {M : Mm} {b : Nat × Nat} {K : Int32 → Mm → Prop} {v0 : Nat} {v1 : Int32} {v2 : Int32} {v3 : Int32} {v4 : Int32} {v5 : Int32} {r1 : Nat} (kv0 : v0 % 64 = 10) (e1 : gr M v0 11 = some r1)
    (h : (((v3 < (if (gi M r1 7) < (gi M r1 6) then (gi M r1 7) else (gi M r1 6) : Int32)) ∨ (¬ v3 < (if (gi M r1 7) < (gi M r1 6) then (gi M r1 7) else (gi M r1 6) : Int32) ∧ (if (gi M r1 7) < (gi M r1 6) then (gi M r1 7) else (gi M r1 6) : Int32) = v3 ∧ ¬ ((gi M r1 6) + (gi M r1 7)) ≤ v4)) → (X mC_widest 24 [(0, .ref v0), (1, .int v1), (2, .int v5), (3, .int (if (gi M r1 7) < (gi M r1 6) then (gi M r1 7) else (gi M r1 6) : Int32)), (4, .int ((gi M r1 6) + (gi M r1 7))), (5, .int (v5 + 1))] [] M b (QI K))) ∧ (((¬ v3 < (if (gi M r1 7) < (gi M r1 6) then (gi M r1 7) else (gi M r1 6) : Int32) ∧ ¬ (if (gi M r1 7) < (gi M r1 6) then (gi M r1 7) else (gi M r1 6) : Int32) = v3) ∨ (¬ v3 < (if (gi M r1 7) < (gi M r1 6) then (gi M r1 7) else (gi M r1 6) : Int32) ∧ (if (gi M r1 7) < (gi M r1 6) then (gi M r1 7) else (gi M r1 6) : Int32) = v3 ∧ ((gi M r1 6) + (gi M r1 7)) ≤ v4)) → (X mC_widest 24 [(0, .ref v0), (1, .int v1), (2, .int v2), (3, .int v3), (4, .int v4), (5, .int (v5 + 1))] [] M b (QI K)))) : X mC_widest 40 [(0, .ref v0), (1, .int v1), (2, .int v2), (3, .int v3), (4, .int v4), (5, .int v5)] [] M b (QI K) := by
  refine x_wf (fun hw => ?_)
  refine x_aload_n (pc := 40) dC_widest_40 rfl (q := 0) rfl ?_
  refine x_getR (pc := 41) dC_widest_41 kv0 flC_73 rfl e1 ?_
  refine x_getI (pc := 44) dC_widest_44 (wfk hw e1 kv0) flC_251 rfl ?_
  refine x_aload_n (pc := 47) dC_widest_47 rfl (q := 0) rfl ?_
  refine x_getR (pc := 48) dC_widest_48 kv0 flC_73 rfl e1 ?_
  refine x_getI (pc := 51) dC_widest_51 (wfk hw e1 kv0) flC_254 rfl ?_
  refine x_mmin (pc := 54) dC_widest_54 mlC_264 (by decide) (Nat.le_of_ble_eq_true rfl) ?_
  refine x_istore (pc := 57) dC_widest_57 (by decide) (L' := [(6, .int (if (gi M r1 7) < (gi M r1 6) then (gi M r1 7) else (gi M r1 6) : Int32)), (0, .ref v0), (1, .int v1), (2, .int v2), (3, .int v3), (4, .int v4), (5, .int v5)]) rfl ?_
  refine x_aload_n (pc := 59) dC_widest_59 rfl (q := 1) rfl ?_
  refine x_getR (pc := 60) dC_widest_60 kv0 flC_73 rfl e1 ?_
  refine x_getI (pc := 63) dC_widest_63 (wfk hw e1 kv0) flC_251 rfl ?_
  refine x_aload_n (pc := 66) dC_widest_66 rfl (q := 1) rfl ?_
  refine x_getR (pc := 67) dC_widest_67 kv0 flC_73 rfl e1 ?_
  refine x_getI (pc := 70) dC_widest_70 (wfk hw e1 kv0) flC_254 rfl ?_
  refine x_iadd (pc := 73) dC_widest_73 ?_
  refine x_istore (pc := 74) dC_widest_74 (by decide) (L' := [(7, .int ((gi M r1 6) + (gi M r1 7))), (6, .int (if (gi M r1 7) < (gi M r1 6) then (gi M r1 7) else (gi M r1 6) : Int32)), (0, .ref v0), (1, .int v1), (2, .int v2), (3, .int v3), (4, .int v4), (5, .int v5)]) rfl ?_
  refine x_iload (pc := 76) dC_widest_76 (q := 1) rfl ?_
  refine x_iload_n (pc := 78) dC_widest_78 rfl (q := 5) rfl ?_
  obtain ⟨g1_0, g1_1⟩ := h
  have g1_k0 : (v3 < (if (gi M r1 7) < (gi M r1 6) then (gi M r1 7) else (gi M r1 6) : Int32)) ∨ (¬ v3 < (if (gi M r1 7) < (gi M r1 6) then (gi M r1 7) else (gi M r1 6) : Int32) ∧ (if (gi M r1 7) < (gi M r1 6) then (gi M r1 7) else (gi M r1 6) : Int32) = v3 ∧ ¬ ((gi M r1 6) + (gi M r1 7)) ≤ v4) → X mC_widest 95 [(7, .int ((gi M r1 6) + (gi M r1 7))), (6, .int (if (gi M r1 7) < (gi M r1 6) then (gi M r1 7) else (gi M r1 6) : Int32)), (0, .ref v0), (1, .int v1), (2, .int v2), (3, .int v3), (4, .int v4), (5, .int v5)] [] M b (QI K) := fun q => by
    have h := g1_0 q
    refine x_iload (pc := 95) dC_widest_95 (q := 7) rfl ?_
    refine x_istore_n (pc := 97) dC_widest_97 rfl (by decide) (L' := [(2, .int v5), (7, .int ((gi M r1 6) + (gi M r1 7))), (6, .int (if (gi M r1 7) < (gi M r1 6) then (gi M r1 7) else (gi M r1 6) : Int32)), (0, .ref v0), (1, .int v1), (3, .int v3), (4, .int v4), (5, .int v5)]) rfl ?_
    refine x_iload (pc := 98) dC_widest_98 (q := 2) rfl ?_
    refine x_istore_n (pc := 100) dC_widest_100 rfl (by decide) (L' := [(3, .int (if (gi M r1 7) < (gi M r1 6) then (gi M r1 7) else (gi M r1 6) : Int32)), (2, .int v5), (7, .int ((gi M r1 6) + (gi M r1 7))), (6, .int (if (gi M r1 7) < (gi M r1 6) then (gi M r1 7) else (gi M r1 6) : Int32)), (0, .ref v0), (1, .int v1), (4, .int v4), (5, .int v5)]) rfl ?_
    refine x_iload (pc := 101) dC_widest_101 (q := 2) rfl ?_
    refine x_istore (pc := 103) dC_widest_103 (by decide) (L' := [(4, .int ((gi M r1 6) + (gi M r1 7))), (3, .int (if (gi M r1 7) < (gi M r1 6) then (gi M r1 7) else (gi M r1 6) : Int32)), (2, .int v5), (7, .int ((gi M r1 6) + (gi M r1 7))), (6, .int (if (gi M r1 7) < (gi M r1 6) then (gi M r1 7) else (gi M r1 6) : Int32)), (0, .ref v0), (1, .int v1), (5, .int v5)]) rfl ?_
    refine x_iinc (pc := 105) dC_widest_105 (q := 7) rfl (v := v5 + 1) rfl (by decide) (L' := [(5, .int (v5 + 1)), (4, .int ((gi M r1 6) + (gi M r1 7))), (3, .int (if (gi M r1 7) < (gi M r1 6) then (gi M r1 7) else (gi M r1 6) : Int32)), (2, .int v5), (7, .int ((gi M r1 6) + (gi M r1 7))), (6, .int (if (gi M r1 7) < (gi M r1 6) then (gi M r1 7) else (gi M r1 6) : Int32)), (0, .ref v0), (1, .int v1)]) rfl ?_
    refine x_goto (pc := 108) dC_widest_108 (t := 24) rfl ?_
    exact x_loc [6, 7, 3, 2, 1, 0] rfl h
  have g1_k1 : (¬ v3 < (if (gi M r1 7) < (gi M r1 6) then (gi M r1 7) else (gi M r1 6) : Int32) ∧ ¬ (if (gi M r1 7) < (gi M r1 6) then (gi M r1 7) else (gi M r1 6) : Int32) = v3) ∨ (¬ v3 < (if (gi M r1 7) < (gi M r1 6) then (gi M r1 7) else (gi M r1 6) : Int32) ∧ (if (gi M r1 7) < (gi M r1 6) then (gi M r1 7) else (gi M r1 6) : Int32) = v3 ∧ ((gi M r1 6) + (gi M r1 7)) ≤ v4) → X mC_widest 105 [(7, .int ((gi M r1 6) + (gi M r1 7))), (6, .int (if (gi M r1 7) < (gi M r1 6) then (gi M r1 7) else (gi M r1 6) : Int32)), (0, .ref v0), (1, .int v1), (2, .int v2), (3, .int v3), (4, .int v4), (5, .int v5)] [] M b (QI K) := fun q => by
    have h := g1_1 q
    refine x_iinc (pc := 105) dC_widest_105 (q := 7) rfl (v := v5 + 1) rfl (by decide) (L' := [(5, .int (v5 + 1)), (7, .int ((gi M r1 6) + (gi M r1 7))), (6, .int (if (gi M r1 7) < (gi M r1 6) then (gi M r1 7) else (gi M r1 6) : Int32)), (0, .ref v0), (1, .int v1), (2, .int v2), (3, .int v3), (4, .int v4)]) rfl ?_
    refine x_goto (pc := 108) dC_widest_108 (t := 24) rfl ?_
    exact x_loc [3, 4, 5, 6, 7, 0] rfl h
  refine x_icmp_gt (pc := 79) dC_widest_79 (t := 95) rfl (fun q1 => ?_) (fun q1 => ?_)
  · exact g1_k0 (Or.inl q1)
  · refine x_iload (pc := 82) dC_widest_82 (q := 1) rfl ?_
    refine x_iload_n (pc := 84) dC_widest_84 rfl (q := 5) rfl ?_
    refine x_icmp_ne (pc := 85) dC_widest_85 (t := 105) rfl (fun q2 => ?_) (fun q2 => ?_)
    · exact g1_k1 (Or.inl ⟨q1, q2⟩)
    · refine x_iload (pc := 88) dC_widest_88 (q := 0) rfl ?_
      refine x_iload (pc := 90) dC_widest_90 (q := 6) rfl ?_
      refine x_icmp_le (pc := 92) dC_widest_92 (t := 105) rfl (fun q3 => ?_) (fun q3 => ?_)
      · exact g1_k1 (Or.inr ⟨q1, q2, q3⟩)
      · exact g1_k0 (Or.inr ⟨q1, q2, q3⟩)

theorem uTo_advance_128 {M : Mm} {b : Nat × Nat} {K : Mm → Prop} {v0 : Nat} {w0 : Int32} {w1 : Nat} {r1 : Nat} (kw1 : w1 % 64 = 7) (kv0 : v0 % 64 = 7) (e1 : gr M v0 0 = some r1)
    (h : CI mTa_figures [.ref r1, .int (gi (si M w1 3 w0) v0 2), .int (if ((gi (si M w1 3 w0) v0 2) + 3) < (gi (si M w1 3 w0) v0 3) then ((gi (si M w1 3 w0) v0 2) + 3) else (gi (si M w1 3 w0) v0 3) : Int32)] (si M w1 3 w0) (fun rv N => X mTo_advance 156 [(0, .ref v0)] [.int rv, .ref v0] N b (QV K))) : X mTo_advance 128 [(0, .ref v0)] [.int w0, .ref w1] M b (QV K) := by
  refine x_wf (fun hw => ?_)
  refine x_putI (pc := 128) dTo_advance_128 kw1 flTo_22 rfl rfl ?_
  refine x_aload_n (pc := 131) dTo_advance_131 rfl (q := 0) rfl ?_
  refine x_aload_n (pc := 132) dTo_advance_132 rfl (q := 0) rfl ?_
  refine x_getR (pc := 133) dTo_advance_133 kv0 flTo_9 rfl e1 ?_
  refine x_aload_n (pc := 136) dTo_advance_136 rfl (q := 0) rfl ?_
  refine x_getI (pc := 137) dTo_advance_137 kv0 flTo_19 rfl ?_
  refine x_aload_n (pc := 140) dTo_advance_140 rfl (q := 0) rfl ?_
  refine x_getI (pc := 141) dTo_advance_141 kv0 flTo_22 rfl ?_
  refine x_aload_n (pc := 144) dTo_advance_144 rfl (q := 0) rfl ?_
  refine x_getI (pc := 145) dTo_advance_145 kv0 flTo_19 rfl ?_
  refine x_iconst (pc := 148) dTo_advance_148 (v := 3) rfl ?_
  refine x_iadd (pc := 149) dTo_advance_149 ?_
  refine x_mmin (pc := 150) dTo_advance_150 mlTo_44 (by decide) (Nat.le_of_ble_eq_true rfl) ?_
  exact x_invV (pc := 153) dTo_advance_153 (c := 6) (S := [.ref v0]) (As := [.int (gi (si M w1 3 w0) v0 2), .int (if ((gi (si M w1 3 w0) v0 2) + 3) < (gi (si M w1 3 w0) v0 3) then ((gi (si M w1 3 w0) v0 2) + 3) else (gi (si M w1 3 w0) v0 3) : Int32)]) mlTo_50 hTa_figures rfl (by decide) rfl (wfk hw e1 kv0) ⟨by decide, by decide⟩ ⟨Nat.zero_le _, Nat.zero_le _⟩ rfl (Nat.le_of_ble_eq_true rfl) (aftI (b' := b) ⟨Nat.le_refl _, Nat.le_refl _⟩ (fun rv N h => h) h)
