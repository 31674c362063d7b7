/-! ===== the class: which words count; weighing begins; what follows from weighing ===== -/
section CW2
variable {M N : Mm} {L R : Nat}
def mwd (M : Mm) (L R : Nat) : Nat → Int32
  | 0 => 0
  | k + 1 => mwd M L R k ||| (if ((ushr (gi M R 0) (nI k)) &&& 1) = 1 then gi M (L + 460) k else 0)
theorem sLi_mainWords {K : Int32 → Mm → Prop} (hl : LR M L) (hR : R % 64 = 3) (h : K (mwd M L R 8) M) : CI mLi_mainWords [.ref L, .ref R] M K := by
  refine call_of rfl (Nat.le_of_ble_eq_true rfl) rfl (vLi_mainWords_0 ?_)
  have key := lp 8 (P := fun k => X mLi_mainWords 4 [(0, .ref L), (1, .ref R), (2, .int (mwd M L R k)), (3, .int (nI k))] [] M (mC mLi_mainWords, mS mLi_mainWords) (QI K)) (fun k hk ih => ?_) ?_
  · exact key
  · refine vLi_mainWords_4 hR ⟨fun q => absurd q (nge rfl (by decide) hk), fun _ => sRu_isMain hR (vLi_mainWords_16 hl.1 (lr7 hl) ⟨fun _ => vin hk (by decide), ?_⟩)⟩
    rw [mwd] at ih
    rw [ncl (by omega), nI_s]
    by_cases c : ((ushr (gi M R 0) (nI k)) &&& 1) = 1
    · rw [if_pos c] at ih
      rw [if_pos c, if_neg (by decide)]; exact ih
    · rw [if_neg c] at ih
      rw [if_neg c, if_pos rfl]; exact ih
  · exact vLi_mainWords_4 hR ⟨fun _ => h, fun q => absurd (nself rfl) q⟩
def cto (M : Mm) (L R : Nat) (b : Int32) : Nat → Int32
  | 0 => mwd M L R 8
  | k + 1 => if ((ushr b (nI k)) &&& 1) = 1 ∧ ¬ gi M (L + 140) k < gi M R 1 then cto M L R b k ||| gi M (L + 524) k else cto M L R b k
def ctg (M : Mm) (L R : Nat) (b : Int32) : Int32 := (cto M L R b 8 &&& (gi M L 10 ^^^ (-1))) &&& (if gi M R 2 = 0 then gi M L 11 ^^^ (-1) else -1)
theorem sLi_counting {b : Int32} {K : Int32 → Mm → Prop} (hl : LR M L) (hR : R % 64 = 3) (h : K (ctg M L R b) M) : CI mLi_counting [.ref L, .ref R, .int b] M K := by
  refine call_of rfl (Nat.le_of_ble_eq_true rfl) rfl (vLi_counting_0 hl.1 (sLi_mainWords hl hR (vLi_counting_5 ?_)))
  have key := lp 8 (P := fun k => X mLi_counting 9 [(0, .ref L), (1, .ref R), (2, .int b), (3, .int (cto M L R b k)), (4, .int (nI k))] [] M (mC mLi_counting, mS mLi_counting) (QI K)) (fun k hk ih => ?_) ?_
  · exact key
  · have ck : (nI k).toNatClampNeg = k := ncl (by omega)
    have nk : ¬ (8 : Int32) ≤ nI k := nge rfl (by decide) hk
    rw [cto] at ih
    refine vLi_counting_9 hl.1 hR ⟨fun q => absurd q.1 nk, fun q => absurd q.1 nk, fun _ => sC_holds (vLi_counting_22 hl.1 hR (lr2 hl) (lr8 hl) ⟨fun _ => vin hk (by decide), fun _ => vin hk (by decide), fun q => ?_, fun q => ?_⟩)⟩
    · rw [ck] at q
      have c : ¬ (((ushr b (nI k)) &&& 1) = 1 ∧ ¬ gi M (L + 140) k < gi M R 1) := by
        rintro ⟨a, e⟩
        rcases q with q | q
        · rw [if_pos a] at q; exact absurd q (by decide)
        · exact e q.2
      rw [if_neg c] at ih
      rw [nI_s]; exact ih
    · rw [ck] at q ⊢
      have c : ((ushr b (nI k)) &&& 1) = 1 := by
        by_cases z : ((ushr b (nI k)) &&& 1) = 1
        · exact z
        · rw [if_neg z] at q; exact absurd rfl q.1
      rw [if_pos ⟨c, q.2⟩] at ih
      rw [nI_s]; exact ih
  · unfold ctg at h
    refine vLi_counting_9 hl.1 hR ⟨fun q => ?_, fun q => ?_, fun q => absurd (nself rfl) q⟩
    · rw [if_pos q.2] at h; exact h
    · rw [if_neg q.2] at h; exact h
theorem lS_tellingBooks {K : Int32 → Mm → Prop} (hl : LR M L) (hR : R % 64 = 3) (h : ∀ v, K v M) : CI mLi_tellingBooks [.ref L, .ref R] M K := by
  refine call_of rfl (Nat.le_of_ble_eq_true rfl) rfl (vLi_tellingBooks_0 hl.1 (sLi_mainWords hl hR (vLi_tellingBooks_5 hl.1 ?_)))
  refine lp 8 (P := fun k => ∀ x y, X mLi_tellingBooks 18 [(0, .ref L), (1, .ref R), (2, .int x), (3, .int y), (4, .int (nI k))] [] M (mC mLi_tellingBooks, mS mLi_tellingBooks) (QI K)) (fun k hk ih x y => ?_) (fun x y => ?_) _ _
  · have nk : ¬ (8 : Int32) ≤ nI k := nge rfl (by decide) hk
    refine vLi_tellingBooks_18 hl.1 hR (lr2 hl) (lr8 hl) ⟨fun _ => vin hk (by decide), fun _ => vin hk (by decide), fun q => absurd q nk, fun _ => ?_, fun _ => ?_⟩
    · rw [nI_s]; exact ih _ _
    · rw [nI_s]; exact ih _ _
  · have l : (8 : Int32) ≤ nI 8 := nself rfl
    refine vLi_tellingBooks_18 hl.1 hR (lr2 hl) (lr8 hl) ⟨fun q => absurd l q, fun q => absurd l q.1, fun _ => h _, fun q => ?_, fun q => absurd l q.1⟩
    exfalso
    rcases q with q | q <;> exact q.1 l
end CW2
/-- what a query of the class may change -/
def CQ (M N : Mm) : Prop := gl N = gl M ∧ (∀ a j, ¬ (a = 5192 ∧ j < 2) → gr N a j = gr M a j) ∧ ∀ a, ¬ (a = 5192 ∨ a = 5261 ∨ a = 5392) → gi N a = gi M a
theorem cq_rf (M : Mm) : CQ M M := ⟨rfl, fun _ _ _ => rfl, fun _ _ => rfl⟩
theorem cq_tr {M N O : Mm} (f : CQ M N) (g : CQ N O) : CQ M O := ⟨g.1.trans f.1, fun a j h => (g.2.1 a j h).trans (f.2.1 a j h), fun a h => (g.2.2 a h).trans (f.2.2 a h)⟩
theorem cq_wq {M N : Mm} (f : WQ M N) : CQ M N := ⟨f.2.1, fun a j _ => by rw [f.1], fun a h => f.2.2.1 a (fun e => h (by omega))⟩
/-- weighing has begun, with some books -/
def bgn (M : Mm) (L R : Nat) (b : Int32) : Mm := si (sr (sr M 5192 0 (some L)) 5192 1 (some R)) 5192 2 (ctg M L R b)
theorem gr_bgn (M : Mm) (L R : Nat) (b : Int32) (a j : Nat) (h : ¬ (a = 5192 ∧ j < 2)) : gr (bgn M L R b) a j = gr M a j := by
  show gr (sr (sr M 5192 0 (some L)) 5192 1 (some R)) a j = _
  rw [gr_sr, if_neg (fun e => h (by omega)), gr_sr, if_neg (fun e => h (by omega))]
theorem cq_bgn (M : Mm) (L R : Nat) (b : Int32) : CQ M (bgn M L R b) := by
  refine ⟨rfl, fun a j h => gr_bgn M L R b a j h, fun a h => ?_⟩
  unfold bgn
  rw [gi_ne (fun e => h (Or.inl e))]; rfl
theorem lr_cq {M N : Mm} {L : Nat} (hL : LA L) (f : CQ M N) (h : LR M L) : LR N L := by
  refine ⟨h.1, fun q hq => ?_, fun w hw => ?_⟩
  · rw [f.2.1 L q.1 (fun e => by unfold LA at hL; omega)]; exact h.2.1 q hq
  · rw [f.2.1 (L + 81) w (fun e => by unfold LA at hL; omega)]; exact h.2.2 w hw
theorem wh_bgn {M : Mm} {L R : Nat} (b : Int32) (hl : LR M L) (hL : LA L) (hR : RA R) (h3 : gr M 5192 3 = some 5261) : WH (bgn M L R b) L R := by
  refine ⟨?_, ?_, ?_, lr_cq hL (cq_bgn M L R b) hl, by unfold RA at hR; omega⟩
  · show gr (sr (sr M 5192 0 (some L)) 5192 1 (some R)) 5192 0 = _
    rw [gr_sr, if_neg (by decide), gr_sr, if_pos ⟨rfl, rfl⟩]
  · show gr (sr (sr M 5192 0 (some L)) 5192 1 (some R)) 5192 1 = _
    rw [gr_sr, if_pos ⟨rfl, rfl⟩]
  · rw [gr_bgn _ _ _ _ _ _ (by decide)]; exact h3
theorem sWe_begin {M : Mm} {L R : Nat} {b : Int32} {K : Mm → Prop} (hl : LR M L) (hL : LA L) (hR : RA R) (h : K (bgn M L R b)) : CV mWe_begin [.ref 5192, .ref L, .ref R, .int b] M K := by
  have h3 : R % 64 = 3 := by unfold RA at hR; omega
  refine call_of rfl (Nat.le_of_ble_eq_true rfl) rfl (vWe_begin_0 rfl hl.1 h3 ?_)
  have l2 : LR (sr (sr M 5192 0 (some L)) 5192 1 (some R)) L := by
    refine lr_cq (M := M) hL ⟨rfl, fun a j n => ?_, fun _ _ => rfl⟩ hl
    rw [gr_sr, if_neg (fun e => n (by omega)), gr_sr, if_neg (fun e => n (by omega))]
  refine sLi_counting l2 h3 (vWe_begin_17 rfl ?_)
  have e : ctg (sr (sr M 5192 0 (some L)) 5192 1 (some R)) L R b = ctg M L R b := by
    have m : ∀ k, mwd (sr (sr M 5192 0 (some L)) 5192 1 (some R)) L R k = mwd M L R k := by
      intro k
      induction k with
      | zero => rfl
      | succ k ih => rw [mwd, mwd, ih]; rfl
    have c : ∀ k, cto (sr (sr M 5192 0 (some L)) 5192 1 (some R)) L R b k = cto M L R b k := by
      intro k
      induction k with
      | zero => exact m 8
      | succ k ih => rw [cto, cto, ih]; rfl
    unfold ctg
    rw [c 8]; rfl
  rw [e]; exact h
section CW3
variable {M N : Mm} {L R : Nat}
/-- what is held, by what, how many -/
def ysC (M : Mm) (L R c : Nat) : Int32 := ocn (fun d => opn M L R d c) 1 8
def nsC (M : Mm) (L R c : Nat) : Int32 := ocn (fun d => opn M L R d c) 0 8
def byC (M : Mm) (L R c : Nat) : Int32 := byf (lwI M L R c) (ysC M L R c) (nsC M L R c) (hds (gi M R 4) (fun d => opn M L R d c)) (gi M R 5)
def heC (M : Mm) (L R c : Nat) : Int32 := anb (byC M L R c) (lwI M L R c) (ysC M L R c) (nsC M L R c) (hds (gi M R 4) (fun d => opn M L R d c)) (gi M R 5)
theorem lwI_wq (f : WQ M N) (hL : LA L) (hR : RA R) (c : Nat) : lwI N L R c = lwI M L R c := by
  unfold lwI; rw [f.2.2.1 R (ra_ne hR), f.2.2.1 (L + 397) (la_ne hL (by decide)), f.2.2.1 (L + 333) (la_ne hL (by decide))]
theorem opf_wq (f : WQ M N) (hL : LA L) (hR : RA R) (c : Nat) : (fun d => opn N L R d c) = fun d => opn M L R d c := funext fun d => opn_wq f hL hR d c
theorem ysC_wq (f : WQ M N) (hL : LA L) (hR : RA R) (c : Nat) : ysC N L R c = ysC M L R c := by unfold ysC; rw [opf_wq f hL hR]
theorem nsC_wq (f : WQ M N) (hL : LA L) (hR : RA R) (c : Nat) : nsC N L R c = nsC M L R c := by unfold nsC; rw [opf_wq f hL hR]
theorem byC_wq (f : WQ M N) (hL : LA L) (hR : RA R) (c : Nat) : byC N L R c = byC M L R c := by
  unfold byC; rw [lwI_wq f hL hR, ysC_wq f hL hR, nsC_wq f hL hR, opf_wq f hL hR, f.2.2.1 R (ra_ne hR)]
theorem heC_wq (f : WQ M N) (hL : LA L) (hR : RA R) (c : Nat) : heC N L R c = heC M L R c := by
  unfold heC; rw [byC_wq f hL hR, lwI_wq f hL hR, ysC_wq f hL hR, nsC_wq f hL hR, opf_wq f hL hR, f.2.2.1 R (ra_ne hR)]
theorem eWe_heldIn {c : Nat} {K : Int32 → Mm → Prop} (w : WH M L R) (hL : LA L) (hR : RA R) (hc : c < 64) (h : ∀ N, WQ M N → WV M L R c N → K (heC M L R c) N) : CI mWe_heldIn [.ref 5192, .int (nI c)] M K := by
  refine call_of rfl (Nat.le_of_ble_eq_true rfl) rfl (vWe_heldIn_0 rfl (eWe_weigh w hL hR hc (fun N qN vN => vWe_heldIn_5 rfl ?_)))
  have e : gi N 5192 9 = heC M L R c := vN.2.2.2.2.2.2
  rw [e]; exact h N qN vN
def csK (M : Mm) (L R : Nat) (v : Int32) (c : Nat) : Int32 := if v < 10 then (if heC M L R c = 1 then 0 else (if heC M L R c = 0 then 1 else 2)) else 10 + byC M L R c
def csO (M : Mm) (L R : Nat) (v : Int32) : Nat → Int64
  | 0 => 0
  | c + 1 => csO M L R v c ||| (if csK M L R v c = v then ((1 : Int64) <<< ((nI c).toInt64 &&& 63)) else 0)
theorem eWe_casesOf {v : Int32} {K : Int64 → Mm → Prop} (w : WH M L R) (hL : LA L) (hR : RA R) (h : ∀ N, WQ M N → K (csO M L R v 64) N) : CJ mWe_casesOf [.ref 5192, .int v] M K := by
  refine call_of rfl (Nat.le_of_ble_eq_true rfl) rfl (vWe_casesOf_0 ?_)
  have key := lp 64 (P := fun c => ∀ N, WQ M N → X mWe_casesOf 5 [(0, .ref 5192), (1, .int v), (2, .long (csO M L R v c)), (4, .int (nI c))] [] N (mC mWe_casesOf, mS mWe_casesOf) (QJ K)) (fun c hc ih N qN => ?_) (fun N qN => ?_)
  · exact key M (wq_rf M)
  · refine vWe_casesOf_5 rfl ⟨fun q => absurd q (nge rfl (by decide) hc), fun _ => eWe_weigh (wh_gr w qN.1) hL hR hc (fun O qO vO => vWe_casesOf_18 rfl ?_)⟩
    have e9 : gi O 5192 9 = heC M L R c := (show gi O 5192 9 = heC N L R c from vO.2.2.2.2.2.2).trans (heC_wq qN hL hR c)
    have e8 : gi O 5192 8 = byC M L R c := (show gi O 5192 8 = byC N L R c from vO.2.2.2.2.2.1).trans (byC_wq qN hL hR c)
    have := ih O (wq_tr qN qO)
    rw [csO] at this
    rw [e9, e8, nI_s]; exact this
  · exact vWe_casesOf_5 rfl ⟨fun _ => h N qN, fun q => absurd (nself rfl) q⟩
theorem lWe_heldIf {d : Nat} {o : Int32} {K : Int32 → Mm → Prop} (w : WH M L R) (hd : d < 8) (h : ∀ v, K v M) : CI mWe_heldIf [.ref 5192, .int (nI d), .int o] M K := by
  have b82 : ∀ x y z, X mWe_heldIf 82 [(0, .ref 5192), (3, .int x), (4, .int y)] [.int z] M (mC mWe_heldIf, mS mWe_heldIf) (QI K) := fun x y z => vWe_heldIf_82 rfl (sWe_decider w (vWe_heldIf_94 rfl (sWe_answerBy w (vWe_heldIf_102 (h _)))))
  exact call_of rfl (Nat.le_of_ble_eq_true rfl) rfl (vWe_heldIf_0 rfl w.2.2.1 w.2.1 ⟨vin hd (by decide), vin hd (by decide), fun _ => sWe_headSaying w (b82 _ _ _), fun _ => b82 _ _ _⟩)
theorem lWe_turnsBy {d c : Nat} {a fw : Int32} {K : Int32 → Mm → Prop} (w : WH M L R) (hd : d < 8) (hc : c < 64) (hw : gi M 5192 4 = nI c) (h : ∀ v, K v M) : CI mWe_turnsBy [.ref 5192, .int (nI d), .int a, .int fw] M K := by
  have l := w.2.2.2.1
  refine call_of rfl (Nat.le_of_ble_eq_true rfl) rfl (vWe_turnsBy_0 rfl w.1 (lr7 l) (lr3 l) (lr4 l) ?_)
  rw [hw]
  exact ⟨vin hd (by decide), vin hc (by decide), vin hc (by decide), sWe_settled w (vWe_turnsBy_82 rfl w.2.2.1 ⟨vin hd (by decide), fun _ => h _, fun _ => lWe_heldIf w hd (fun v => vWe_turnsBy_102 rfl ⟨fun _ => h _, fun _ => h _⟩)⟩)⟩
end CW3
/-- what tallying may change -/
def TQ (M N : Mm) : Prop := gr N = gr M ∧ gl N = gl M ∧ ∀ a, a ≠ 5392 → gi N a = gi M a
theorem tq_rf (M : Mm) : TQ M M := ⟨rfl, rfl, fun _ _ => rfl⟩
theorem tq_tr {M N O : Mm} (f : TQ M N) (g : TQ N O) : TQ M O := ⟨g.1.trans f.1, g.2.1.trans f.2.1, fun a h => (g.2.2 a h).trans (f.2.2 a h)⟩
section CW4
variable {M N : Mm} {L R : Nat}
theorem lFi_tally {d c : Nat} {a : Nat} {K : Mm → Prop} (w : WH M L R) (g0 : gr M 5312 0 = some 5192) (g1 : gr M 5312 1 = some 5392) (hd : d < 8) (ha : a < 2) (hc : c < 64) (hw : gi M 5192 4 = nI c) (h : ∀ N, TQ M N → K N) : CV mFi_tally [.ref 5312, .int (nI d), .int (nI a)] M K := by
  refine call_of rfl (Nat.le_of_ble_eq_true rfl) rfl (vFi_tally_0 rfl g0 ?_)
  rw [hw]
  have b57 : ∀ x, X mFi_tally 57 [(0, .ref 5312), (1, .int (nI d)), (2, .int (nI a)), (3, .int (nI c)), (4, .int x), (5, .int 0)] [] M (mC mFi_tally, mS mFi_tally) (QV K) := by
    intro x
    refine lp (c + 1) (P := fun m => ∀ N, TQ M N → X mFi_tally 57 [(0, .ref 5312), (1, .int (nI d)), (2, .int (nI a)), (3, .int (nI c)), (4, .int x), (5, .int (nI m))] [] N (mC mFi_tally, mS mFi_tally) (QV K)) (fun m hm ih N qN => ?_) (fun N qN => ?_) M (tq_rf M)
    · have ex : (((nI d * 2) + nI a) * 64) + nI m = nI ((d * 2 + a) * 64 + m) := by
        rw [show (2 : Int32) = nI 2 from rfl, show (64 : Int32) = nI 64 from rfl, pk_mul, nadd, pk_mul, nadd]
      refine vFi_tally_57 ⟨fun _ => h N qN, fun _ => ?_, fun _ => sJi_bitCount (fun v _ => vFi_tally_84 (sC_holds (vFi_tally_87 rfl (by rw [qN.1]; exact g1) ⟨fun _ => ?_, fun _ => ?_, fun _ => ⟨?_, ?_⟩⟩)))⟩
      · rw [nI_s]; exact ih N qN
      · rw [ex]; exact vin (by omega) (by decide)
      · rw [nI_s]; exact ih N qN
      · rw [ex]; exact vin (by omega) (by decide)
      · rw [nI_s]; exact ih _ (tq_tr qN ⟨rfl, rfl, fun b n => gi_ne n⟩)
    · have l : nI c < nI (c + 1) := (nlt (by omega) (by omega)).mpr (by omega)
      exact vFi_tally_57 ⟨fun _ => h N qN, fun q => absurd l q.1, fun q => absurd l q.1⟩
  refine lp 7 (P := fun k => ∀ x, X mFi_tally 14 [(0, .ref 5312), (1, .int (nI d)), (2, .int (nI a)), (3, .int (nI c)), (4, .int x), (5, .int (nI k))] [] M (mC mFi_tally, mS mFi_tally) (QV K)) (fun k hk ih x => ?_) (fun x => ?_) _
  · have nk : ¬ (6 : Int32) < nI k := by rw [show (6 : Int32) = nI 6 from rfl, nlt (by omega) (by decide)]; omega
    refine vFi_tally_14 rfl g0 ⟨fun q => absurd q nk, fun _ => lWe_turnsBy w hd hc hw (fun v => vFi_tally_34 ?_)⟩
    rw [nI_s]; exact ih _
  · exact vFi_tally_14 rfl g0 ⟨fun _ => b57 _, fun q => absurd (by decide) q⟩
theorem lFi_tallyDoctors {c : Nat} {K : Mm → Prop} (w : WH M L R) (g0 : gr M 5312 0 = some 5192) (g1 : gr M 5312 1 = some 5392) (hc : c < 64) (hw : gi M 5192 4 = nI c) (h : ∀ N, TQ M N → K N) : CV mFi_tallyDoctors [.ref 5312] M K := by
  refine call_of rfl (Nat.le_of_ble_eq_true rfl) rfl (vFi_tallyDoctors_0 ?_)
  refine lp 8 (P := fun d => ∀ N, TQ M N → X mFi_tallyDoctors 2 [(0, .ref 5312), (1, .int (nI d))] [] N (mC mFi_tallyDoctors, mS mFi_tallyDoctors) (QV K)) (fun d hd ih N qN => ?_) (fun N qN => ?_) M (tq_rf M)
  · have wN := wh_gr w qN.1
    have e0 : gr N 5312 0 = some 5192 := by rw [qN.1]; exact g0
    have e1 : gr N 5312 1 = some 5392 := by rw [qN.1]; exact g1
    refine vFi_tallyDoctors_2 rfl e0 wN.2.1 ⟨fun q => absurd q (nge rfl (by decide) hd), fun _ => sRu_isMain wN.2.2.2.2 (vFi_tallyDoctors_19 rfl ⟨fun _ => ?_, fun _ => lFi_tally (a := 0) wN e0 e1 hd (by decide) hc (by rw [qN.2.2 5192 (by decide)]; exact hw) (fun O qO => vFi_tallyDoctors_28 rfl ?_)⟩)⟩
    · rw [nI_s]; exact ih N qN
    · have qMO := tq_tr qN qO
      refine lFi_tally (a := 1) (wh_gr w qMO.1) (by rw [qMO.1]; exact g0) (by rw [qMO.1]; exact g1) hd (by decide) hc (by rw [qMO.2.2 5192 (by decide)]; exact hw) (fun P qP => vFi_tallyDoctors_34 ?_)
      rw [nI_s]; exact ih P (tq_tr qMO qP)
  · have wN := wh_gr w qN.1
    exact vFi_tallyDoctors_2 rfl (by rw [qN.1]; exact g0) wN.2.1 ⟨fun _ => h N qN, fun q => absurd (nself rfl) q⟩
/-- what the search for the best may change -/
def BQ (M N : Mm) : Prop := gr N = gr M ∧ gl N = gl M ∧ (∀ a, ¬ (a = 5192 ∨ a = 5261 ∨ a = 5392) → gi N a = gi M a)
theorem bq_tr {M N O : Mm} (f : BQ M N) (g : BQ N O) : BQ M O := ⟨g.1.trans f.1, g.2.1.trans f.2.1, fun a h => (g.2.2 a h).trans (f.2.2 a h)⟩
theorem bq_wq {M N : Mm} (f : WQ M N) : BQ M N := ⟨f.1, f.2.1, fun a h => f.2.2.1 a (fun e => h (by omega))⟩
theorem bq_tq {M N : Mm} (f : TQ M N) : BQ M N := ⟨f.1, f.2.1, fun a h => f.2.2 a (fun e => h (by omega))⟩
theorem cq_bq {M N : Mm} (f : BQ M N) : CQ M N := ⟨f.2.1, fun a j _ => by rw [f.1], f.2.2⟩
theorem lFi_best {K : Int32 → Mm → Prop} (w : WH M L R) (hL : LA L) (hR : RA R) (g0 : gr M 5312 0 = some 5192) (g1 : gr M 5312 1 = some 5392) (h : ∀ v N, BQ M N → (v < 0 ∨ ∃ i, i < 1024 ∧ v = nI i) → K v N) : CI mFi_best [.ref 5312] M K := by
  refine call_of rfl (Nat.le_of_ble_eq_true rfl) rfl (vFi_best_0 rfl g1 (sJr_fill (kk := 16) (nn := 1024) rfl ak_16 (by decide) (vFi_best_8 ?_)))
  have s0 : BQ M (fl M 5392 1024 0) := ⟨rfl, rfl, fun a n => by funext k; rw [flR _ _ _ _ _ _ (fun e => n (by omega))]⟩
  have b50 : ∀ N, BQ M N → X mFi_best 50 [(0, .ref 5312), (1, .int (-1)), (2, .int 0)] [] N (mC mFi_best, mS mFi_best) (QI K) := by
    intro N qN
    have wN := wh_gr w qN.1
    have e0 : gr N 5312 0 = some 5192 := by rw [qN.1]; exact g0
    have e1 : gr N 5312 1 = some 5392 := by rw [qN.1]; exact g1
    refine lp 1024 (P := fun i => ∀ v, (v < 0 ∨ ∃ i, i < 1024 ∧ v = nI i) → X mFi_best 50 [(0, .ref 5312), (1, .int v), (2, .int (nI i))] [] N (mC mFi_best, mS mFi_best) (QI K)) (fun i hi ih v hv => ?_) (fun v hv => ?_) _ (Or.inl (by decide))
    · refine vFi_best_50 rfl e1 e0 wN.2.1 ⟨fun q => absurd q (nge rfl (by decide) hi), fun _ => call_of rfl (Nat.le_of_ble_eq_true rfl) rfl (vFi_doctorAt_0 (vFi_best_70 wN.2.2.2.2 (sRu_isMain wN.2.2.2.2 (vFi_best_73 rfl e1 ⟨fun _ => vin hi (by decide), fun q => ?_, fun _ => ?_, fun _ => ?_⟩))))⟩
      · obtain ⟨j, hj, ej⟩ := hv.resolve_left q.2
        rw [ej]; exact vin hj (by decide)
      · rw [nI_s]; exact ih v hv
      · rw [nI_s]; exact ih _ (Or.inr ⟨i, hi, rfl⟩)
    · exact vFi_best_50 rfl e1 e0 wN.2.1 ⟨fun _ => h v N qN hv, fun q => absurd (nself rfl) q⟩
  refine lp 64 (P := fun c => ∀ N, BQ M N → X mFi_best 10 [(0, .ref 5312), (1, .int (nI c))] [] N (mC mFi_best, mS mFi_best) (QI K)) (fun c hc ih N qN => ?_) (fun N qN => ?_) _ s0
  · have wN := wh_gr w qN.1
    have e0 : gr N 5312 0 = some 5192 := by rw [qN.1]; exact g0
    refine vFi_best_10 rfl e0 ⟨fun q => absurd q (nge rfl (by decide) hc), fun _ => eWe_weigh wN hL hR hc (fun O qO vO => ?_)⟩
    have qMO := bq_tr qN (bq_wq qO)
    have o0 : gr O 5312 0 = some 5192 := by rw [qMO.1]; exact g0
    have o1 : gr O 5312 1 = some 5392 := by rw [qMO.1]; exact g1
    refine vFi_best_24 rfl o0 ⟨fun _ => ?_, fun _ => lFi_tallyDoctors (wh_gr w qMO.1) o0 o1 hc vO.1 (fun P qP => vFi_best_40 ?_)⟩
    · rw [nI_s]; exact ih O qMO
    · rw [nI_s]; exact ih P (bq_tr qMO (bq_tq qP))
  · exact vFi_best_10 rfl (by rw [qN.1]; exact g0) ⟨fun _ => b50 N qN, fun q => absurd (nself rfl) q⟩
end CW4
