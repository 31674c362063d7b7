/-! ===== the reference at any state: read ===== -/
theorem i64_q {x : Int64} {n : Nat} (hn : n ≤ 40) (h0 : ¬ x < 0) (h1 : x < (nI n).toInt64) : ∃ q, q < n ∧ x.toInt32 = nI q := by
  rw [Int64.lt_iff_toInt_lt] at h0 h1
  have e1 : (nI n).toInt = n := by
    show (Int32.ofNat n).toInt = n
    rw [Int32.toInt_ofNat_of_lt (by omega)]
  rw [Int32.toInt_toInt64, e1] at h1
  have h0' : 0 ≤ x.toInt := by
    have : (0 : Int64).toInt = 0 := by decide
    omega
  obtain ⟨q, hq⟩ := Int.eq_ofNat_of_zero_le h0'
  refine ⟨q, by omega, ?_⟩
  apply Int32.toInt_inj.mp
  rw [Int64.toInt_toInt32, hq]
  show _ = (Int32.ofNat q).toInt
  rw [Int32.toInt_ofNat_of_lt (by omega)]
  unfold Int.bmod
  dsimp only
  rw [if_pos (by omega)]
  omega
theorem tM_read {M : Mm} {W : Nat} {k l f n w : Int32} {K : Int32 → Mm → Prop} (j : JW M W) (hh : HD M) (hs : ∀ e, e < 4 → ∃ n, n ≤ 40 ∧ gi M 7708 e = nI n) (h : ∀ r N, QF W M N → K r N) : CI mM_read [.ref 6027, .int k, .int l, .int f, .int n, .int w] M K := by
  have hm := j.1
  refine call_of rfl (Nat.le_of_ble_eq_true rfl) rfl (vM_read_0 (sM_isSheet (fun q => vM_read_5 ⟨fun _ => h _ _ (qf_rf W M), fun q => absurd rfl q⟩) (fun e he ee p1 p2 => vM_read_5 ⟨fun q => absurd q (by decide), fun _ => sM_in (l := 0) (m := 40) rfl rfl (fun q => vM_read_18 ⟨fun _ => h _ _ (qf_rf W M), fun q => absurd rfl q⟩) (fun n1 n2 => vM_read_18 ⟨fun q => absurd q (by decide), fun _ => sM_in (l := 0) (m := 2) rfl rfl (fun q => vM_read_31 rfl (mr40 hm) ⟨fun q => absurd rfl q, fun q => absurd rfl q.1, fun q => absurd rfl q.1, fun q => absurd rfl q.1, fun q => absurd rfl q.1, fun _ => h _ _ (qf_rf W M)⟩) (fun w1 w2 => vM_read_31 rfl (mr40 hm) ⟨fun _ => ?_, fun _ => ?_, fun q => tM_findAll j hh (fun N g _ _ => vM_read_69 ?_), fun _ => h _ _ (qf_rf W M), fun _ => h _ _ (qf_rf W M), fun q => absurd q (by decide)⟩)⟩)⟩)))
  · rw [ee]; exact vin he (by decide)
  · rw [ee]; exact vin he (by decide)
  · subst ee
    have f1 : QF W M N := qf_af g
    have hmN := mr_w hm f1.1
    obtain ⟨m, hm40, hn⟩ := rngL (x := n) (c := 40) (n := 40) rfl (by decide) n1 n2
    subst hn
    obtain ⟨z, hz, ez⟩ := hs e he
    have ez2 : gi N 7708 e = nI z := by rw [f1.2.1 7708 (by decide)]; exact ez
    have key := lp m (P := fun i => ∀ x, X mM_read 75 [(0, .ref 6027), (1, .int (nI e)), (3, .int f), (4, .int (nI m)), (5, .int w), (6, .int x), (7, .int (nI i))] [] N (mC mM_read, mS mM_read) (QI K)) (fun i hi ih x => ?_) (fun x => ?_)
    · exact key 0
    · refine vM_read_75 rfl (mr41 hmN) (mr42 hmN) ⟨fun q => absurd q (nge rfl (by omega) hi), fun _ => ⟨fun _ => vin he (by decide), fun q => ?_, fun _ => h _ _ f1, fun q => sM_isCase (fun r => ?_) (fun c hc ec => ?_)⟩⟩
      · rw [ncl (show e < 2 ^ 31 by omega), ez2] at q
        obtain ⟨u, hu, eu⟩ := i64_q hz q.1 q.2
        rw [eu, nI_40]; exact vin (by omega) (by decide)
      · exact vM_read_133 rfl (mr30 hmN) ⟨fun q => absurd rfl q, fun q => absurd rfl q.1, fun q => absurd rfl q.1, fun q => absurd rfl q.1, fun _ => h _ _ f1⟩
      · have go : ∀ a b y, X mM_read 172 [(0, .ref 6027), (1, .int (nI e)), (3, .int f), (4, .int (nI m)), (5, .int w), (7, .int (nI i))] [.int a, .int b, .int y] N (mC mM_read, mS mM_read) (QI K) := fun a b y => vM_read_172 (by rw [nI_s]; exact ih _)
        exact vM_read_133 rfl (mr30 hmN) ⟨fun _ => by rw [ec]; exact vin hc (by decide), fun _ => go _ _ _, fun _ => go _ _ _, fun _ => go _ _ _, fun q => absurd q (by decide)⟩
    · exact vM_read_75 rfl (mr41 hmN) (mr42 hmN) ⟨fun _ => h _ _ f1, fun q => absurd (nself rfl) q⟩
