/-! ===== the class: feed, end, library, rule ===== -/
/-- the byte i of v, as a number -/
def bv (v : Int64) (i : Nat) : Nat := (v.toBitVec.toNat >>> (56 - 8 * i)) % 256
theorem i8_of (n : Nat) (hn : n < 256) : (nI n).toInt8.toBitVec = BitVec.ofNat 8 n := by
  have : ∀ n, n < 256 → (nI n).toInt8.toBitVec = BitVec.ofNat 8 n := by decide +kernel
  exact this n hn
def cbt (v : Int64) (i : Nat) : Int32 := vp_nar .byte (((lushr v (56 - (8 * nI i))).toInt32).toInt8.toInt32)
theorem lsh_s : ∀ i, i < 8 → (((56 : Int32) - (8 * nI i)).toInt64.toUInt64 &&& Int64.toUInt64 63).toNat % 64 = 56 - 8 * i := by decide +kernel
theorem rsh_s : ∀ i, i < 8 → (((d8 i).toInt64 &&& 63).toBitVec.smod 64).toNat = 56 - 8 * i := by decide +kernel
theorem bv_b (v : Int64) {i j : Nat} (hi : i < 8) : (bv v i).testBit j = (decide (j < 8) && v.toBitVec.getLsbD (56 - 8 * i + j)) := by
  unfold bv
  rw [show (256 : Nat) = 2 ^ 8 from rfl, Nat.testBit_mod_two_pow, Nat.testBit_shiftRight]
  rfl
theorem cbt_e (v : Int64) {i : Nat} (hi : i < 8) : cbt v i = (nI (bv v i)).toInt8.toInt32 := by
  unfold cbt
  rw [vp_nar_byte, Int8.toInt8_toInt32]
  congr 1
  apply Int8.toBitVec_inj.1
  rw [i8_of (bv v i) (Nat.mod_lt _ (by decide)), Int32.toBitVec_toInt8, Int64.toBitVec_toInt32]
  apply BitVec.eq_of_getLsbD_eq
  intro j hj
  rw [BitVec.getLsbD_signExtend, BitVec.getLsbD_signExtend, BitVec.getLsbD_ofNat, bv_b v hi]
  have e : (lushr v (56 - (8 * nI i))).toBitVec.getLsbD j = v.toBitVec.getLsbD (56 - 8 * i + j) := by
    show ((v.toUInt64 >>> (((56 : Int32) - (8 * nI i)).toInt64.toUInt64 &&& Int64.toUInt64 63)).toBitVec).getLsbD j = _
    rw [UInt64.toBitVec_shiftRight]
    show (v.toBitVec >>> ((((56 : Int32) - (8 * nI i)).toInt64.toUInt64 &&& Int64.toUInt64 63).toBitVec % 64).toNat).getLsbD j = _
    have h : ((((56 : Int32) - (8 * nI i)).toInt64.toUInt64 &&& Int64.toUInt64 63).toBitVec % 64).toNat = 56 - 8 * i := lsh_s i hi
    rw [h, BitVec.getLsbD_ushiftRight]
  simp only [hj, show j < 32 by omega, show j < 64 by omega, e, decide_true, Bool.true_and, if_true]
theorem byt_e (v : Int64) {i : Nat} (hi : i < 8) : byt v i = nI (bv v i) := by
  unfold byt
  apply Int32.toBitVec_inj.1
  show _ = BitVec.ofNat 32 (bv v i)
  rw [Int64.toBitVec_toInt32, Int64.toBitVec_and, Int64.toBitVec_shiftRight]
  apply BitVec.eq_of_getLsbD_eq
  intro j hj
  rw [BitVec.getLsbD_signExtend, BitVec.getLsbD_and, BitVec.getLsbD_ofNat, bv_b v hi]
  have h : (((d8 i).toInt64 &&& 63).toBitVec.smod 64).toNat = 56 - 8 * i := rsh_s i hi
  have e : (v.toBitVec.sshiftRight' (((d8 i).toInt64 &&& 63).toBitVec.smod 64)).getLsbD j = if 56 - 8 * i + j < 64 then v.toBitVec.getLsbD (56 - 8 * i + j) else v.toBitVec.msb := by
    show (v.toBitVec.sshiftRight (((d8 i).toInt64 &&& 63).toBitVec.smod 64).toNat).getLsbD j = _
    rw [h, BitVec.getLsbD_sshiftRight]
    simp [show j < 64 by omega]
  have m : (255 : Int64).toBitVec.getLsbD j = decide (j < 8) := by
    have : ∀ j, j < 32 → (255 : Int64).toBitVec.getLsbD j = decide (j < 8) := by decide +kernel
    exact this j hj
  rw [e, m]
  by_cases l : j < 8
  · simp [l, hj, show j < 64 by omega, show 56 - 8 * i + j < 64 by omega]
  · simp [l, hj, show j < 64 by omega]
theorem by_feed (v : Int64) {i : Nat} (hi : i < 8) : BY (cbt v i) (byt v i) := ⟨bv v i, Nat.mod_lt _ (by decide), cbt_e v hi, byt_e v hi⟩
section CX3
variable {M N : Mm} {L P R S U : Nat}
/-- the tape of the class, with i bytes of v behind its t -/
def FC (t : Nat) (v : Int64) (i : Nat) (M N : Mm) : Prop := gr N = gr M ∧ gl N = gl M ∧ (∀ a, a ≠ 145 → gi N a = gi M a) ∧ ∀ k, gi N 145 k = if t ≤ k ∧ k < t + i then cbt v (k - t) else gi M 145 k
theorem sC_feed {v : Int64} {t : Nat} {K : Int32 → Mm → Prop} (c : CX M L P R S U) (ht : gi M 70 1 = nI t) (ht2 : t ≤ 400) (h0 : 392 < t → K (-3) M) (h1 : t ≤ 392 → ∀ N, FC t v 8 M N → K (nI (t + 8)) (si N 70 1 (nI (t + 8)))) : CI mC_feed [.ref 10, .long v] M K := by
  have g0 := cxg c (10, 0, 70) (by decide)
  have gb := cxg c (70, 0, 145) (by decide)
  refine call_of rfl (Nat.le_of_ble_eq_true rfl) rfl (vC_feed_0 rfl g0 (call_of rfl (Nat.le_of_ble_eq_true rfl) rfl (vTa_append_0 rfl ⟨fun q => ?_, fun q => ?_⟩)))
  · rw [ht, show (392 : Int32) = nI 392 from rfl, nle (by decide) (by omega)] at q
    have key := lp 8 (P := fun i => ∀ N, FC t v i M N → X mTa_append 14 [(0, .ref 70), (1, .long v), (3, .int (nI i))] [] N (mC mTa_append, mS mTa_append) (QI (fun rv N => X mC_feed 8 [(0, .ref 10)] [.int rv] N (mC mC_feed, mS mC_feed) (QI K)))) (fun i hi ih N fN => ?_) (fun N fN => ?_)
    · exact key M ⟨rfl, rfl, fun _ _ => rfl, fun k => by rw [if_neg (by omega)]⟩
    · have nt : gi N 70 1 = nI t := by rw [fN.2.2.1 70 (by decide)]; exact ht
      have gN : gr N 70 0 = some 145 := by rw [fN.1]; exact gb
      refine vTa_append_14 rfl gN ⟨fun q => absurd q (nge rfl (by decide) hi), fun _ => ?_⟩
      rw [nt, nadd]
      refine ⟨vin (by omega) (by decide), ?_⟩
      rw [ncl (by omega), nI_s]
      refine ih _ ⟨fN.1, fN.2.1, fun a n => by rw [gi_ne n]; exact fN.2.2.1 a n, fun k => ?_⟩
      rw [gi_si, fN.2.2.2 k]
      by_cases e : k = t + i
      · rw [if_pos ⟨rfl, e⟩, if_pos (by omega), show k - t = i by omega]; rfl
      · rw [if_neg (fun z => e z.2)]
        by_cases l : t ≤ k ∧ k < t + i
        · rw [if_pos l, if_pos (by omega)]
        · rw [if_neg l, if_neg (by omega)]
    · have nt : gi N 70 1 = nI t := by rw [fN.2.2.1 70 (by decide)]; exact ht
      have gN : gr N 70 0 = some 145 := by rw [fN.1]; exact gb
      refine vTa_append_14 rfl gN ⟨fun _ => vC_feed_8 rfl (by show gr N 10 0 = some 70; rw [fN.1]; exact g0) ?_, fun q => absurd (nself rfl) q⟩
      rw [if_neg (by decide), gi_si, if_pos ⟨rfl, rfl⟩, nt, show (8 : Int32) = nI 8 from rfl, nadd]
      exact h1 q N fN
  · rw [ht, show (392 : Int32) = nI 392 from rfl, nle (by decide) (by omega)] at q
    refine vC_feed_8 rfl g0 ?_
    rw [if_pos rfl]
    exact h0 (by omega)
theorem sC_end {n : Int32} {K : Int32 → Mm → Prop} (c : CX M L P R S U) (h0 : (n < 0 ∨ ¬ n ≤ gi M 70 1) → K (-1) M) (h1 : ¬ n < 0 → n ≤ gi M 70 1 → K (gi M 70 1) (si M 70 1 n)) : CI mC_end [.ref 10, .int n] M K :=
  call_of rfl (Nat.le_of_ble_eq_true rfl) rfl (vC_end_0 rfl (cxg c (10, 0, 70) (by decide)) ⟨fun q => h0 (q.imp id (fun q => q.2)), fun q => h1 q.1 q.2⟩)
/-- what library may change, of the class -/
def LCF (P : Nat) (M N : Mm) : Prop := gl N = gl M ∧ (∀ a, a ≠ 10 → gr N a = gr M a) ∧ (∀ a, a ≠ 199 → a ≠ 258 → a ≠ 70 → a ≠ 10 → ¬ (P ≤ a ∧ a < P + 2304) → gi N a = gi M a) ∧ gi N 70 1 = 0
/-- what rule may change, of the class -/
def RCF (U : Nat) (M N : Mm) : Prop := gl N = gl M ∧ (∀ a, a ≠ 10 → gr N a = gr M a) ∧ (∀ a, a ≠ 199 → a ≠ 70 → a ≠ 10 → a ≠ U → gi N a = gi M a) ∧ gi N 70 1 = 0 ∧ RN N U
end CX3
