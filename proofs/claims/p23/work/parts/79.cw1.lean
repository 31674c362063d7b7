/-! ===== the class weighs: exact ===== -/
def WH (M : Mm) (L R : Nat) : Prop := gr M 5192 0 = some L ∧ gr M 5192 1 = some R ∧ gr M 5192 3 = some 5261 ∧ LR M L ∧ R % 64 = 3
def agr (y n : Int32) : Int32 := if n = 0 then (if y = 0 then -4 else 1) else (if y = 0 then 0 else -4)
/-- the heaviest of some words, of weights below k -/
def hvs (M : Mm) (L : Nat) (ws fw : Int32) : Nat → Int32
  | 0 => 0
  | k + 1 => if (ws &&& (gi M (L + 590) k ||| (if nI k = fw then 16777216 else 0))) = 0 then hvs M L ws fw k else ws &&& (gi M (L + 590) k ||| (if nI k = fw then 16777216 else 0))
def stl (M : Mm) (L R : Nat) (y n fw : Int32) : Int32 := if y = 0 ∨ n = 0 then agr y n else if gi M R 3 = 1 then (if y ≤ n then 0 else 1) else if gi M R 3 = 2 then agr (y &&& hvs M L (y ||| n) fw 7) (n &&& hvs M L (y ||| n) fw 7) else -4
def his (M : Mm) (L d : Nat) : Int32 := gi M (L + 460) d &&& gi M 5192 2
def opn (M : Mm) (L R d c : Nat) : Int32 := stl M L R (his M L d &&& gi M (L + 205) c) (his M L d &&& gi M (L + 269) c) 0
/-- what weighing may change -/
def WQ (M N : Mm) : Prop := gr N = gr M ∧ gl N = gl M ∧ (∀ a, ¬ (a = 5192 ∨ a = 5261) → gi N a = gi M a) ∧ gi N 5192 2 = gi M 5192 2
theorem wq_rf (M : Mm) : WQ M M := ⟨rfl, rfl, fun _ _ => rfl, rfl⟩
theorem wq_tr {M N O : Mm} (f : WQ M N) (g : WQ N O) : WQ M O := ⟨g.1.trans f.1, g.2.1.trans f.2.1, fun a h => (g.2.2.1 a h).trans (f.2.2.1 a h), g.2.2.2.trans f.2.2.2⟩
theorem wq_si {M : Mm} {a j : Nat} {v : Int32} (h : (a = 5192 ∧ j ≠ 2) ∨ a = 5261) : WQ M (si M a j v) := by
  refine ⟨rfl, rfl, fun b n => gi_ne (fun e => n (by omega)), ?_⟩
  rw [gi_si, if_neg (fun e => by omega)]
theorem wh_gr {M N : Mm} {L R : Nat} (w : WH M L R) (e : gr N = gr M) : WH N L R := ⟨by rw [e]; exact w.1, by rw [e]; exact w.2.1, by rw [e]; exact w.2.2.1, lr_gr w.2.2.2.1 e, w.2.2.2.2⟩
/-- a library lies away from what weighing changes -/
def LA (L : Nat) : Prop := L = 385 ∨ L = 2689
def RA (R : Nat) : Prop := R = 4995 ∨ R = 5059 ∨ R = 5123
section CW1
variable {M N : Mm} {L R : Nat}
theorem la_ne (h : LA L) {o : Nat} (ho : o < 2304) : ¬ (L + o = 5192 ∨ L + o = 5261) := by unfold LA at h; omega
theorem ra_ne (h : RA R) : ¬ (R = 5192 ∨ R = 5261) := by unfold RA at h; omega
theorem hvs_wq (f : WQ M N) (hL : LA L) (ws fw : Int32) : ∀ k, hvs N L ws fw k = hvs M L ws fw k
  | 0 => rfl
  | k + 1 => by rw [hvs, hvs, hvs_wq f hL ws fw k, f.2.2.1 (L + 590) (la_ne hL (by decide))]
theorem stl_wq (f : WQ M N) (hL : LA L) (hR : RA R) (y n fw : Int32) : stl N L R y n fw = stl M L R y n fw := by
  unfold stl; rw [hvs_wq f hL, f.2.2.1 R (ra_ne hR)]
theorem his_wq (f : WQ M N) (hL : LA L) (d : Nat) : his N L d = his M L d := by unfold his; rw [f.2.2.1 (L + 460) (la_ne hL (by decide)), f.2.2.2]
theorem opn_wq (f : WQ M N) (hL : LA L) (hR : RA R) (d c : Nat) : opn N L R d c = opn M L R d c := by
  unfold opn; rw [stl_wq f hL hR, his_wq f hL, f.2.2.1 (L + 205) (la_ne hL (by decide)), f.2.2.1 (L + 269) (la_ne hL (by decide))]
theorem sWe_heaviest {ws fw : Int32} {K : Int32 → Mm → Prop} (w : WH M L R) (h : K (hvs M L ws fw 7) M) : CI mWe_heaviest [.ref 5192, .int ws, .int fw] M K := by
  refine call_of rfl (Nat.le_of_ble_eq_true rfl) rfl (vWe_heaviest_0 ?_)
  have key : ∀ k, k ≤ 7 → K (hvs M L ws fw k) M → X mWe_heaviest 3 [(0, .ref 5192), (1, .int ws), (2, .int fw), (3, .int (nI k + (-1)))] [] M (mC mWe_heaviest, mS mWe_heaviest) (QI K) := by
    intro k
    induction k with
    | zero =>
      intro _ h
      have l : nI 0 + (-1) < 0 := by decide
      exact vWe_heaviest_3 rfl w.1 (lr9 w.2.2.2.1) ⟨fun q => absurd l q, fun _ => h, fun q => absurd l q.1, fun q => absurd l q.1⟩
    | succ k ih =>
      intro hk h
      have e : nI (k + 1) + (-1) = nI k := pk_m1 k
      rw [e]
      rw [hvs] at h
      have b28 : ∀ x, x = (if nI k = fw then 16777216 else 0) → X mWe_heaviest 28 [(0, .ref 5192), (1, .int ws), (2, .int fw), (3, .int (nI k))] [.int x, .int (gi M (L + 590) k), .int ws] M (mC mWe_heaviest, mS mWe_heaviest) (QI K) := by
        rintro x rfl
        refine vWe_heaviest_28 ⟨fun q => ?_, fun q => ?_⟩
        · rw [if_pos q] at h
          exact ih (by omega) h
        · rw [if_neg q] at h; exact h
      refine vWe_heaviest_3 rfl w.1 (lr9 w.2.2.2.1) ⟨fun _ => vin (by omega) (by decide), fun q => absurd q (n0 k (by omega)), fun q => ?_, fun q => ?_⟩
      · rw [ncl (by omega)]; exact b28 0 (by rw [if_neg q.2])
      · rw [ncl (by omega)]; exact b28 _ (by rw [if_pos q.2])
  exact key 7 (Nat.le_refl _) h
theorem sWe_settled {y n fw : Int32} {K : Int32 → Mm → Prop} (w : WH M L R) (h : K (stl M L R y n fw) M) : CI mWe_settled [.ref 5192, .int y, .int n, .int fw] M K := by
  unfold stl at h
  refine call_of rfl (Nat.le_of_ble_eq_true rfl) rfl (vWe_settled_0 rfl w.2.1 ⟨fun q => sC_agreed (vWe_settled_13 ?_), fun q => ?_, fun q => sWe_heaviest w (vWe_settled_55 (sC_agreed (vWe_settled_68 ?_))), fun q => ?_, fun q => ?_⟩)
  · rw [if_pos (q.imp id (fun q => q.2))] at h; exact h
  · rw [if_neg (fun z => z.elim q.1 q.2.1), if_neg q.2.2.1, if_neg q.2.2.2] at h; exact h
  · rw [if_neg (fun z => z.elim q.1 q.2.1), if_neg q.2.2.1, if_pos q.2.2.2] at h; exact h
  · rw [if_neg (fun z => z.elim q.1 q.2.1), if_pos q.2.2.1, if_pos q.2.2.2] at h; exact h
  · rw [if_neg (fun z => z.elim q.1 q.2.1), if_pos q.2.2.1, if_neg q.2.2.2] at h; exact h
theorem sWe_opinion {d c : Nat} {K : Int32 → Mm → Prop} (w : WH M L R) (hd : d < 8) (hc : c < 64) (h : K (opn M L R d c) M) : CI mWe_opinion [.ref 5192, .int (nI d), .int (nI c)] M K := by
  have l := w.2.2.2.1
  refine call_of rfl (Nat.le_of_ble_eq_true rfl) rfl (vWe_opinion_0 rfl w.1 (lr7 l) (lr3 l) (lr4 l) ⟨vin hd (by decide), vin hc (by decide), vin hc (by decide), ?_⟩)
  rw [ncl (show d < 2 ^ 31 by omega), ncl (show c < 2 ^ 31 by omega)]
  exact sWe_settled w (vWe_opinion_42 h)
def cls (M : Mm) (L d c : Nat) : Int32 := if (his M L d &&& gi M (L + 205) c) = 0 ∨ (his M L d &&& gi M (L + 269) c) = 0 then 0 else 1
theorem sWe_clashes {d c : Nat} {K : Int32 → Mm → Prop} (w : WH M L R) (hd : d < 8) (hc : c < 64) (h : K (cls M L d c) M) : CI mWe_clashes [.ref 5192, .int (nI d), .int (nI c)] M K := by
  have l := w.2.2.2.1
  have cd : (nI d).toNatClampNeg = d := ncl (by omega)
  have cc : (nI c).toNatClampNeg = c := ncl (by omega)
  unfold cls his at h
  refine call_of rfl (Nat.le_of_ble_eq_true rfl) rfl (vWe_clashes_0 rfl w.1 (lr7 l) (lr3 l) (lr4 l) ⟨vin hd (by decide), vin hc (by decide), fun _ => vin hc (by decide), fun q => ?_, fun q => ?_⟩)
  · rw [cd, cc] at q
    rw [if_pos (q.imp id (fun q => q.2))] at h; exact h
  · rw [cd, cc] at q
    rw [if_neg (fun z => z.elim q.1 q.2)] at h; exact h
def lwI (M : Mm) (L R c : Nat) : Int32 := if gi M R 6 = 0 then -4 else if gi M R 6 = 2 then gi M (L + 397) c else gi M (L + 333) c
theorem sWe_lawIn {c : Nat} {K : Int32 → Mm → Prop} (w : WH M L R) (hc : c < 64) (h : K (lwI M L R c) M) : CI mWe_lawIn [.ref 5192, .int (nI c)] M K := by
  have l := w.2.2.2.1
  have cc : (nI c).toNatClampNeg = c := ncl (by omega)
  unfold lwI at h
  refine call_of rfl (Nat.le_of_ble_eq_true rfl) rfl (vWe_lawIn_0 rfl w.2.1 w.1 (lr5 l) (lr6 l) ⟨fun _ => vin hc (by decide), fun _ => vin hc (by decide), fun q => ?_, fun q => ?_, fun q => ?_⟩)
  · rw [if_neg q.1, if_neg q.2] at h; rw [cc]; exact h
  · rw [if_neg q.1, if_pos q.2] at h; rw [cc]; exact h
  · rw [if_pos q] at h; exact h
/-- what the head says, by opinions o -/
def hds (hd : Int32) (o : Nat → Int32) : Int32 := if hd < 0 ∨ 8 ≤ hd then -4 else o hd.toNatClampNeg
theorem sWe_headSaying {K : Int32 → Mm → Prop} (w : WH M L R) (h : K (hds (gi M R 4) (gi M 5261)) M) : CI mWe_headSaying [.ref 5192] M K := by
  unfold hds at h
  refine call_of rfl (Nat.le_of_ble_eq_true rfl) rfl (vWe_headSaying_0 rfl w.2.1 w.2.2.1 ⟨fun q => ?_, fun q => ?_, fun q => ?_⟩)
  · obtain ⟨k, hk, ek⟩ := rng (c := 8) (n := 8) rfl (by decide) q.1 q.2
    rw [ek]; exact vin hk (by decide)
  · rw [if_pos (q.imp id (fun q => q.2))] at h; exact h
  · rw [if_neg (fun z => z.elim q.1 q.2)] at h; exact h
theorem sWe_decider {y n hd : Int32} {K : Int32 → Mm → Prop} (w : WH M L R) (h : K (byf (gi M 5192 5) y n hd (gi M R 5)) M) : CI mWe_decider [.ref 5192, .int y, .int n, .int hd] M K := by
  unfold byf at h
  refine call_of rfl (Nat.le_of_ble_eq_true rfl) rfl (vWe_decider_0 rfl w.2.1 ⟨fun q => ?_, fun q => ?_, fun q => ?_, fun q => ?_, fun q => ?_⟩)
  · rw [if_pos q.1, if_pos q.2.1, if_pos q.2.2.1, if_pos q.2.2.2] at h; exact h
  · rw [if_pos q.1, if_pos q.2.1, if_pos q.2.2.1, if_neg q.2.2.2] at h; exact h
  · rw [if_pos q.1, if_pos q.2.1, if_neg q.2.2] at h; exact h
  · rw [if_pos q.1, if_neg q.2] at h; exact h
  · rw [if_neg q] at h; exact h
def anb (b l y n hd si : Int32) : Int32 := if b = 1 then l else if b = 2 then (if y ≤ n then 0 else 1) else if b = 3 then hd else if b = 4 then si else -4
theorem sWe_answerBy {b y n hd : Int32} {K : Int32 → Mm → Prop} (w : WH M L R) (h : K (anb b (gi M 5192 5) y n hd (gi M R 5)) M) : CI mWe_answerBy [.ref 5192, .int b, .int y, .int n, .int hd] M K := by
  unfold anb at h
  refine call_of rfl (Nat.le_of_ble_eq_true rfl) rfl (vWe_answerBy_0 rfl w.2.1 ⟨fun q => ?_, fun q => ?_, fun q => ?_, fun q => ?_, fun q => ?_⟩)
  · rw [if_pos q] at h; exact h
  · subst q; exact h
  · subst q; exact h
  · subst q; exact h
  · rw [if_neg q.1, if_neg q.2.1, if_neg q.2.2.1, if_neg q.2.2.2] at h; exact h
/-- how many of the first k doctors say v -/
def ocn (o : Nat → Int32) (v : Int32) : Nat → Int32
  | 0 => 0
  | k + 1 => ocn o v k + (if o k = v then 1 else 0)
/-- what is weighed -/
def WV (M : Mm) (L R c : Nat) (N : Mm) : Prop := gi N 5192 4 = nI c ∧ gi N 5192 5 = lwI M L R c ∧ (∀ d, d < 8 → gi N 5261 d = opn M L R d c) ∧ gi N 5192 6 = ocn (fun d => opn M L R d c) 1 8 ∧ gi N 5192 7 = ocn (fun d => opn M L R d c) 0 8 ∧ gi N 5192 8 = byf (lwI M L R c) (ocn (fun d => opn M L R d c) 1 8) (ocn (fun d => opn M L R d c) 0 8) (hds (gi M R 4) (fun d => opn M L R d c)) (gi M R 5) ∧ gi N 5192 9 = anb (byf (lwI M L R c) (ocn (fun d => opn M L R d c) 1 8) (ocn (fun d => opn M L R d c) 0 8) (hds (gi M R 4) (fun d => opn M L R d c)) (gi M R 5)) (lwI M L R c) (ocn (fun d => opn M L R d c) 1 8) (ocn (fun d => opn M L R d c) 0 8) (hds (gi M R 4) (fun d => opn M L R d c)) (gi M R 5)
theorem g5 (M : Mm) (k i : Nat) (v : Int32) (h : i ≠ k) : gi (si M 5192 k v) 5192 i = gi M 5192 i := by rw [gi_si, if_neg (fun q => h q.2)]
theorem g5s (M : Mm) (k : Nat) (v : Int32) : gi (si M 5192 k v) 5192 k = v := by rw [gi_si, if_pos ⟨rfl, rfl⟩]
theorem hds_cg {hd : Int32} {o o' : Nat → Int32} (h : ∀ d, d < 8 → o d = o' d) : hds hd o = hds hd o' := by
  unfold hds
  by_cases q : hd < 0 ∨ 8 ≤ hd
  · rw [if_pos q, if_pos q]
  · rw [if_neg q, if_neg q]
    obtain ⟨k, hk, ek⟩ := rng (c := 8) (n := 8) rfl (by decide) (fun z => q (Or.inl z)) (fun z => q (Or.inr z))
    rw [ek, ncl (by omega)]; exact h k hk
theorem eWe_weigh {c : Nat} {K : Mm → Prop} (w : WH M L R) (hL : LA L) (hR : RA R) (hc : c < 64) (h : ∀ N, WQ M N → WV M L R c N → K N) : CV mWe_weigh [.ref 5192, .int (nI c)] M K := by
  have nR := ra_ne hR
  refine call_of rfl (Nat.le_of_ble_eq_true rfl) rfl (vWe_weigh_0 rfl ?_)
  have q0 : WQ M (si M 5192 4 (nI c)) := wq_si (Or.inl ⟨rfl, by decide⟩)
  have el : lwI (si M 5192 4 (nI c)) L R c = lwI M L R c := by
    unfold lwI; rw [q0.2.2.1 R nR, q0.2.2.1 (L + 397) (la_ne hL (by decide)), q0.2.2.1 (L + 333) (la_ne hL (by decide))]
  refine sWe_lawIn (wh_gr w q0.1) hc (vWe_weigh_11 rfl rfl ?_)
  rw [el]
  have q1 : WQ M (si (si (si (si M 5192 4 (nI c)) 5192 5 (lwI M L R c)) 5192 6 0) 5192 7 0) := wq_tr q0 (wq_tr (wq_si (Or.inl ⟨rfl, by decide⟩)) (wq_tr (wq_si (Or.inl ⟨rfl, by decide⟩)) (wq_si (Or.inl ⟨rfl, by decide⟩))))
  have key := lp 8 (P := fun d => ∀ N, WQ M N → gi N 5192 4 = nI c → gi N 5192 5 = lwI M L R c → (∀ e, e < d → gi N 5261 e = opn M L R e c) → gi N 5192 6 = ocn (fun d => opn M L R d c) 1 d → gi N 5192 7 = ocn (fun d => opn M L R d c) 0 d → X mWe_weigh 26 [(0, .ref 5192), (1, .int (nI c)), (2, .int (nI d))] [] N (mC mWe_weigh, mS mWe_weigh) (QV K)) (fun d hd ih N qN n4 n5 no n6 n7 => ?_) (fun N qN n4 n5 no n6 n7 => ?_)
  · refine key _ q1 ?_ ?_ (fun e he => absurd he (by omega)) ?_ ?_
    · rw [g5 _ _ _ _ (by decide), g5 _ _ _ _ (by decide), g5 _ _ _ _ (by decide), g5s]
    · rw [g5 _ _ _ _ (by decide), g5 _ _ _ _ (by decide), g5s]
    · rw [g5 _ _ _ _ (by decide), g5s]; rfl
    · rw [g5s]; rfl
  · have wN := wh_gr w qN.1
    refine vWe_weigh_26 rfl ⟨fun q => absurd q (nge rfl (by decide) hd), fun _ => sWe_opinion wN hd hc (vWe_weigh_38 rfl wN.2.2.1 ⟨vin hd (by decide), ?_⟩)⟩
    rw [opn_wq qN hL hR, ncl (by omega), nI_s]
    generalize eo : opn M L R d c = o
    have k : ∀ j, gi (si N 5261 d o) 5192 j = gi N 5192 j := fun j => by rw [giR _ _ _ _ _ _ (by decide)]
    rw [k, n6]
    have k7 : ∀ v, gi (si (si N 5261 d o) 5192 6 v) 5192 7 = gi N 5192 7 := fun v => by rw [g5 _ _ _ _ (by decide), k]
    rw [k7, n7]
    refine ih _ (wq_tr qN (wq_tr (wq_si (Or.inr rfl)) (wq_tr (wq_si (Or.inl ⟨rfl, by decide⟩)) (wq_si (Or.inl ⟨rfl, by decide⟩))))) ?_ ?_ (fun e he => ?_) ?_ ?_
    · rw [g5 _ _ _ _ (by decide), g5 _ _ _ _ (by decide), k, n4]
    · rw [g5 _ _ _ _ (by decide), g5 _ _ _ _ (by decide), k, n5]
    · rw [giR _ _ _ _ _ _ (by decide), giR _ _ _ _ _ _ (by decide), gi_si]
      by_cases z : e = d
      · rw [if_pos ⟨rfl, z⟩, z, eo]
      · rw [if_neg (fun y => z y.2)]; exact no e (by omega)
    · rw [g5 _ _ _ _ (by decide), g5s, ocn, eo]
    · rw [g5s, ocn, eo]
  · have wN := wh_gr w qN.1
    refine vWe_weigh_26 rfl ⟨fun _ => sWe_headSaying wN (vWe_weigh_93 rfl (sWe_decider wN (vWe_weigh_108 rfl rfl ?_))), fun q => absurd (nself rfl) q⟩
    rw [n5, n6, n7, qN.2.2.1 R nR, hds_cg (o' := fun d => opn M L R d c) no]
    generalize eb : byf (lwI M L R c) (ocn (fun d => opn M L R d c) 1 8) (ocn (fun d => opn M L R d c) 0 8) (hds (gi M R 4) (fun d => opn M L R d c)) (gi M R 5) = b
    rw [g5s, g5 _ _ _ _ (by decide), g5 _ _ _ _ (by decide), n6, n7]
    have wO : WH (si N 5192 8 b) L R := wh_gr wN rfl
    refine sWe_answerBy wO (vWe_weigh_129 rfl ?_)
    have qO : WQ M (si N 5192 8 b) := wq_tr qN (wq_si (Or.inl ⟨rfl, by decide⟩))
    rw [g5 _ _ _ _ (by decide), n5, qO.2.2.1 R nR]
    refine h _ (wq_tr qO (wq_si (Or.inl ⟨rfl, by decide⟩))) ⟨?_, ?_, fun d hd => ?_, ?_, ?_, ?_, ?_⟩
    · rw [g5 _ _ _ _ (by decide), g5 _ _ _ _ (by decide), n4]
    · rw [g5 _ _ _ _ (by decide), g5 _ _ _ _ (by decide), n5]
    · rw [giR _ _ _ _ _ _ (by decide), giR _ _ _ _ _ _ (by decide)]; exact no d hd
    · rw [g5 _ _ _ _ (by decide), g5 _ _ _ _ (by decide), n6]
    · rw [g5 _ _ _ _ (by decide), g5 _ _ _ _ (by decide), n7]
    · rw [g5 _ _ _ _ (by decide), g5s, eb]
    · rw [g5s, eb]
end CW1
