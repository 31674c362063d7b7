section MG95
/-! ===== game: the same on both sides ===== -/
def D3 (x : Int32) : Prop := x = 1 ∨ x = 0 ∨ x = -1
def mxv (x y : Int32) : Int32 := if y ≤ x then x else y
def sgn (w : Nat) (x : Int32) : Int32 := if nI w = 1 then x else -x
/-- the best of passing and bringing -/
def gmx (w : Nat) (v V : Int32) : Int32 := sgn w (mxv (sgn w v) (sgn w V))
theorem gm_3 {w : Nat} {v V : Int32} (hw : w < 2) (hv : D3 v) (hV : D3 V) : D3 (gmx w v V) ∧ (w = 1 → V ≤ gmx w v V) ∧ (w = 0 → gmx w v V ≤ V) ∧ ((w = 1 → v ≤ V) → (w = 0 → V ≤ v) → gmx w v V = V ∧ sgn w v ≤ sgn w V) := by
  have : w = 0 ∨ w = 1 := by omega
  unfold D3 at *
  rcases this with rfl | rfl <;> rcases hv with rfl | rfl | rfl <;> rcases hV with rfl | rfl | rfl <;> decide
theorem mx_i (x y : Int32) : mxv (mxv x y) y = mxv x y := by
  unfold mxv
  by_cases q : y ≤ x
  · rw [if_pos q, if_pos q]
  · rw [if_neg q, if_pos (Int32.le_refl _)]
theorem mx_r {x y : Int32} (h : x ≤ y) : mxv x y = y := by
  unfold mxv
  by_cases q : y ≤ x
  · rw [if_pos q]; exact Int32.le_antisymm h q
  · rw [if_neg q]
/-- a book that is not there -/
def fre (s b : Nat) : Prop := ((nI s >>> (nI b &&& 31)) &&& 1) = 0
theorem fre_ix : ∀ s, s < 64 → ∀ b, b < 6 → ∀ w, w < 2 → ((nI s >>> (nI b &&& 31)) &&& 1) = 0 → (bti s b w).toNatClampNeg = 4 * (s + 2 ^ b) + 2 * (1 - w) ∧ s + 2 ^ b < 64 := by decide +kernel
theorem fre_ex : ∀ s, s < 63 → ∃ b, b < 6 ∧ ((nI s >>> (nI b &&& 31)) &&& 1) = 0 := by decide +kernel
theorem bi_ix : ∀ s, s < 64 → ∀ w, w < 2 → (bi1 s w).toNatClampNeg = 4 * s + 2 * w + 1 ∧ (bi2 s w).toNatClampNeg = 4 * s + 2 * (1 - w) + 1 ∧ (bi3 s w).toNatClampNeg = 4 * s + 2 * w := by decide +kernel
section EX1
variable {M N : Mm} {L P R S U D W t : Nat} {G : Nat → Nat → Int32}
theorem uM_bestTurn {s w : Nat} {v V : Int32} {K : Int32 → Mm → Prop} (hm : MR M) (hs : s < 64) (hw : w < 2) (hB : ∀ b, b < 6 → fre s b → gi M 7582 (bti s b w).toNatClampNeg = V) (ex : ∃ b, b < 6 ∧ fre s b) (h : ∀ N, QF W M N → gi N 7582 = gi M 7582 → gi N 7502 = gi M 7502 → (fre s 0 → sgn w v ≤ sgn w V → gi N 6027 39 = 0) → K (gmx w v V) N) : CI mM_bestTurn [.ref 6027, .int (nI s), .int (nI w), .int v] M K := by
  refine call_of rfl (Nat.le_of_ble_eq_true rfl) rfl (vM_bestTurn_0 rfl ?_)
  have key := lp 6 (P := fun b => ∀ N x4 x5, QF W M N → gi N 7582 = gi M 7582 → gi N 7502 = gi M 7502 → (((∀ e, e < b → ¬ fre s e) ∧ x4 = sgn w v ∧ x5 = 0) ∨ ((∃ e, e < b ∧ fre s e) ∧ x4 = mxv (sgn w v) (sgn w V))) → (0 < b → fre s 0 → sgn w v ≤ sgn w V → ¬ x5 = 0 ∧ gi N 6027 39 = 0) → X mM_bestTurn 25 [(0, .ref 6027), (1, .int (nI s)), (2, .int (nI w)), (4, .int x4), (5, .int x5), (6, .int (nI b))] [] N (mC mM_bestTurn, mS mM_bestTurn) (QI K)) (fun b hb ih N x4 x5 f g1 g2 st z0 => ?_) (fun N x4 x5 f g1 g2 st z0 => ?_)
  · refine key _ (sgn w v) 0 qf_39 ?_ ?_ (Or.inl ⟨fun e he => absurd he (by omega), rfl, rfl⟩) (fun z => absurd z (by omega))
    · funext k; exact giR _ _ _ _ _ _ (by decide)
    · funext k; exact giR _ _ _ _ _ _ (by decide)
  · have hi := bti_in s hs b hb w hw
    have nq := nge (c := 6) (i := b) (n := 6) rfl (by decide) hb
    refine vM_bestTurn_25 rfl (mr38 (mr_w hm f.1)) ⟨fun _ => hi, fun q => absurd q.1 nq, fun q => absurd q.1 nq, fun q => ?_, fun q => ?_⟩
    · rw [nI_s]
      refine ih N _ _ f g1 g2 ?_ ?_
      · rcases st with ⟨a1, a2⟩ | ⟨⟨e, he, a1⟩, a2⟩
        · refine Or.inl ⟨fun e he => ?_, a2⟩
          by_cases z : e = b
          · rw [z]; exact q.2
          · exact a1 e (by omega)
        · exact Or.inr ⟨⟨e, by omega, a1⟩, a2⟩
      · intro _ f0 le
        by_cases z : b = 0
        · exfalso
          rw [z] at q
          exact q.2 f0
        · exact z0 (by omega) f0 le
    · have eV : gi N 7582 ((4 * (nI s ||| ((1 : Int32) <<< (nI b &&& 31)))) + (2 * (1 - nI w))).toNatClampNeg = V := by
        rw [g1]; exact hB b hb q.2
      rw [eV]
      have fin : ∀ y x5' : Int32, (y = 0 ∨ y = 1) → x5' = (if x5 = 0 ∧ y = 0 then (0 : Int32) else 1) → (0 < b + 1 → fre s 0 → sgn w v ≤ sgn w V → ¬ x5' = 0 ∧ (if y = 0 then gi N 6027 39 else nI b) = 0) → X mM_bestTurn 136 [(0, .ref 6027), (1, .int (nI s)), (2, .int (nI w)), (4, .int x4), (6, .int (nI b)), (7, .int (sgn w V))] [.int x5'] (si N 6027 39 (if y = 0 then gi N 6027 39 else nI b)) (mC mM_bestTurn, mS mM_bestTurn) (QI K) := by
        intro y x5' hy h5 hz
        refine vM_bestTurn_136 ?_
        rw [nI_s]
        refine ih _ _ _ (qf_tr f qf_39) ?_ ?_ (Or.inr ⟨⟨b, by omega, q.2⟩, ?_⟩) ?_
        · rw [← g1]; funext k; exact giR _ _ _ _ _ _ (by decide)
        · rw [← g2]; funext k; exact giR _ _ _ _ _ _ (by decide)
        · show mxv x4 (sgn w V) = _
          rcases st with ⟨-, a2, -⟩ | ⟨-, a2⟩
          · rw [a2]
          · rw [a2, mx_i]
        · intro l f0 le
          obtain ⟨b1, b2⟩ := hz l f0 le
          exact ⟨b1, by rw [gi_si, if_pos ⟨rfl, rfl⟩]; exact b2⟩
      have b101 : ∀ y : Int32, (y = 0 ∨ y = 1) → (0 < b + 1 → fre s 0 → sgn w v ≤ sgn w V → ¬ (if x5 = 0 ∧ y = 0 then (0 : Int32) else 1) = 0 ∧ (if y = 0 then gi N 6027 39 else nI b) = 0) → X mM_bestTurn 101 [(0, .ref 6027), (1, .int (nI s)), (2, .int (nI w)), (4, .int x4), (5, .int x5), (6, .int (nI b)), (7, .int (sgn w V))] [.int y] N (mC mM_bestTurn, mS mM_bestTurn) (QI K) := by
        intro y hy hz
        refine vM_bestTurn_101 rfl ⟨fun p => fin y 1 hy ?_ ?_, fun p => fin y 0 hy ?_ ?_⟩
        · rw [if_neg]
          rintro ⟨u1, u2⟩
          rcases p with p | p
          · exact p u1
          · exact p.2 u2
        · intro l f0 le
          exact ⟨by decide, (hz l f0 le).2⟩
        · rw [if_pos p]
        · intro l f0 le
          have := hz l f0 le
          rw [if_pos p] at this
          exact absurd rfl this.1
      refine ⟨fun p => b101 1 (Or.inr rfl) ?_, fun p => b101 0 (Or.inl rfl) ?_⟩
      · intro _ f0 le
        refine ⟨?_, ?_⟩
        · rw [if_neg (fun u => absurd u.2 (by decide))]; decide
        · rw [if_neg (by decide)]
          by_cases z : b = 0
          · rw [z]; rfl
          · exfalso
            obtain ⟨n5, -⟩ := z0 (by omega) f0 le
            have x4e : x4 = sgn w V := by
              rcases st with ⟨a1, -⟩ | ⟨-, a2⟩
              · exact absurd f0 (a1 0 (by omega))
              · rw [a2, mx_r le]
            rcases p with p | p
            · rw [x4e] at p; exact Int32.lt_irrefl (show sgn w V < sgn w V from p)
            · exact n5 p.2.2
      · intro _ f0 le
        by_cases z : b = 0
        · exfalso
          obtain ⟨a2, a3⟩ : x4 = sgn w v ∧ x5 = 0 := by
            rcases st with ⟨-, a⟩ | ⟨⟨e, he, -⟩, -⟩
            · exact a
            · omega
          have n1 : ¬ x4 < sgn w V ∧ (¬ sgn w V = x4 ∨ ¬ x5 = 0) := by
            rcases p with p | p
            · exact ⟨p.1, Or.inl p.2⟩
            · exact ⟨p.1, Or.inr p.2.2⟩
          rw [a2, a3] at n1
          rcases n1.2 with y | y
          · exact y (Int32.le_antisymm (Int32.not_lt.mp n1.1) le)
          · exact y rfl
        · obtain ⟨n5, n9⟩ := z0 (by omega) f0 le
          exact ⟨by rw [if_neg (fun u => n5 u.1)]; decide, by rw [if_pos rfl]; exact n9⟩
  · have l : (6 : Int32) ≤ nI 6 := nself rfl
    obtain ⟨b, hb, fb⟩ := ex
    have x4e : x4 = mxv (sgn w v) (sgn w V) := by
      rcases st with ⟨a1, -⟩ | ⟨-, a2⟩
      · exact absurd fb (a1 b hb)
      · exact a2
    have := h N f g1 g2 (fun f0 le => (z0 (by decide) f0 le).2)
    unfold gmx at this
    refine vM_bestTurn_25 rfl (mr38 (mr_w hm f.1)) ⟨fun q => absurd l q.1, fun q => ?_, fun q => ?_, fun q => absurd l q.1, fun q => absurd l q.1⟩
    · rw [x4e]
      have e : sgn w (mxv (sgn w v) (sgn w V)) = -(mxv (sgn w v) (sgn w V)) := by
        conv => lhs; unfold sgn
        rw [if_neg q.2]; rfl
      rw [e] at this; exact this
    · rw [x4e]
      have e : sgn w (mxv (sgn w v) (sgn w V)) = mxv (sgn w v) (sgn w V) := by
        conv => lhs; unfold sgn
        rw [if_pos q.2]; rfl
      rw [e] at this; exact this
/-- how a set of books ends, for the one who is for yes -/
def enE (x : Int32) : Int32 := if x = 1 then 1 else if x = 0 then -1 else 0
theorem enE_3 (x : Int32) : D3 (enE x) := by
  unfold enE D3
  by_cases a : x = 1
  · rw [if_pos a]; exact Or.inl rfl
  · rw [if_neg a]
    by_cases b : x = 0
    · rw [if_pos b]; exact Or.inr (Or.inr rfl)
    · rw [if_neg b]; exact Or.inr (Or.inl rfl)
/-- the values of a set of books: whoever is at the turn -/
def BF (N : Mm) (V : Int32) (u : Nat) : Prop := (∀ w, w < 2 → gi N 7582 (4 * u + 2 * w) = V ∧ D3 (gi N 7582 (4 * u + 2 * w + 1))) ∧ V ≤ gi N 7582 (4 * u + 3) ∧ gi N 7582 (4 * u + 1) ≤ V
theorem bf_si {V r : Int32} {u k : Nat} (h : BF N V u) (hk : k < 4 * u) : BF (si N 7582 k r) V u := by
  have e : ∀ x, 4 * u ≤ x → gi (si N 7582 k r) 7582 x = gi N 7582 x := fun x hx => by rw [gi_si, if_neg (fun q => by omega)]
  refine ⟨fun w hw => ?_, ?_, ?_⟩
  · rw [e _ (by omega), e _ (by omega)]; exact h.1 w hw
  · rw [e _ (by omega)]; exact h.2.1
  · rw [e _ (by omega)]; exact h.2.2
theorem bf_eq {V : Int32} {u : Nat} {O : Mm} (e : gi O 7582 = gi N 7582) (h : BF N V u) : BF O V u := by unfold BF; rw [e]; exact h
theorem uM_findGame {c : Nat} {K : Mm → Prop} {E : Nat → Int32} (j : JW M W) (hh : HD M) (hc : c < 64) (hE : ∀ s, s < 64 → E s = enE (rhe (si M 6027 9 (nI s)) W c)) (h : ∀ N, QF W M N → BF N (E 63) 0 → (∀ b, b < 6 → fre 0 b → BF N (E 63) (2 ^ b)) → K N) : CV mM_findGame [.ref 6027, .int (nI c)] M K := by
  refine call_of rfl (Nat.le_of_ble_eq_true rfl) rfl (vM_findGame_0 rfl ?_)
  have E3 : ∀ s, s < 64 → D3 (E s) := fun s hs => by rw [hE s hs]; exact enE_3 _
  have key := lp 64 (P := fun s => ∀ N b, QF W (si M 6027 9 b) N → (∀ e, e < s → gi N 7502 e = E e) → X mM_findGame 7 [(0, .ref 6027), (1, .int (nI c)), (2, .int (gi M 6027 9)), (3, .int (nI s))] [] N (mC mM_findGame, mS mM_findGame) (QV K)) (fun s hs ih N b f he => ?_) (fun N b f he => ?_)
  · exact key M _ (qf_i9 W M) (fun e he => absurd he (by omega))
  · have f1 := qf_s9 (c := nI s) f
    have hN := hd_sm (qf_sm f1) (hd_9 hh)
    refine vM_findGame_7 rfl ⟨fun q => absurd q (nge rfl (by decide) hs), fun _ => tM_findAll (jw_sm (qf_sm f1) (jw_9 j)) hN (fun N2 g hf _ => ?_)⟩
    have f2 := qf_tr f1 (qf_af g)
    have hm := mr_w j.1 f2.1
    refine vM_findGame_22 rfl (mr37 hm) (mr30 hm) ⟨vin hc (by decide), fun _ => vin hc (by decide), vin hs (by decide), ?_⟩
    rw [nI_s, ncl (show c < 2 ^ 31 by omega), ncl (show s < 2 ^ 31 by omega)]
    refine ih _ _ (qf_tr f2 (qf_sc (Or.inr (Or.inl rfl)))) (fun e he' => ?_)
    rw [gi_si]
    by_cases z : e = s
    · rw [if_pos ⟨rfl, z⟩, (hf c hc).2.2.2, hev_eo hN hc, rhe_sm (qf_sm f1) (jw_9 j), z, hE s hs]; rfl
    · rw [if_neg (fun q => z q.2), g.1 7502 (by decide) (by decide) (by decide) (by decide)]
      show gi (si N 6027 9 (nI s)) 7502 e = E e
      rw [giR _ _ _ _ _ _ (by decide)]
      exact he e (by omega)
  · refine vM_findGame_7 rfl ⟨fun _ => ?_, fun q => absurd (nself rfl) q⟩
    have f0 := qf_9 f
    have he0 : ∀ e, e < 64 → gi (si N 6027 9 (gi M 6027 9)) 7502 e = E e := fun e h' => by rw [giR _ _ _ _ _ _ (by decide)]; exact he e h'
    generalize si N 6027 9 (gi M 6027 9) = O at f0 he0 ⊢
    have k2 := lp 64 (P := fun i => ∀ N, QF W M N → (∀ e, e < 64 → gi N 7502 e = E e) → (∀ u, u < 64 → 63 - i < u → BF N (E 63) u) → (i = 64 → BF N (E 63) 0) → X mM_findGame 70 [(0, .ref 6027), (3, .int (dn i))] [] N (mC mM_findGame, mS mM_findGame) (QV K)) (fun i hi ih N f he bf _ => ?_) (fun N f he bf b0 => ?_)
    · exact k2 O f0 he0 (fun u hu hl => absurd hl (by omega)) (fun z => absurd z (by decide))
    · obtain ⟨e1, e2⟩ := dn1 i hi
      rw [e1] at e2 ⊢
      have hs : 63 - i < 64 := by omega
      have nxt : ∀ N, QF W M N → (∀ e, e < 64 → gi N 7502 e = E e) → (∀ u, u < 64 → 63 - i ≤ u → BF N (E 63) u) → X mM_findGame 70 [(0, .ref 6027), (3, .int (dn (i + 1)))] [] N (mC mM_findGame, mS mM_findGame) (QV K) := fun N f he bf => ih N f he (fun u hu hl => bf u hu (by omega)) (fun z => bf 0 (by decide) (by omega))
      clear ih
      generalize 63 - i = s at e2 hs bf nxt ⊢
      refine vM_findGame_70 ⟨fun q => absurd q (n0 s (by omega)), fun _ => ?_⟩
      -- the second half: entries of a player when the other one did not pass
      have k3 := lp 2 (P := fun w => ∀ N, QF W M N → (∀ e, e < 64 → gi N 7502 e = E e) → (∀ u, u < 64 → s < u → BF N (E 63) u) → (D3 (gi N 7582 (4 * s + 1)) ∧ D3 (gi N 7582 (4 * s + 3)) ∧ E 63 ≤ gi N 7582 (4 * s + 3) ∧ gi N 7582 (4 * s + 1) ≤ E 63) → (∀ x, x < w → gi N 7582 (4 * s + 2 * x) = E 63) → X mM_findGame 136 [(0, .ref 6027), (3, .int (nI s)), (4, .int (nI w))] [] N (mC mM_findGame, mS mM_findGame) (QV K)) (fun w hw ih3 N f he bf h1 h0 => ?_) (fun N f he bf h1 h0 => ?_)
      · -- the first half: entries of a player when the other one passed
        have k4 := lp 2 (P := fun w => ∀ N, QF W M N → (∀ e, e < 64 → gi N 7502 e = E e) → (∀ u, u < 64 → s < u → BF N (E 63) u) → (∀ x, x < w → D3 (gi N 7582 (4 * s + 2 * x + 1)) ∧ (x = 1 → E 63 ≤ gi N 7582 (4 * s + 2 * x + 1)) ∧ (x = 0 → gi N 7582 (4 * s + 2 * x + 1) ≤ E 63)) → X mM_findGame 77 [(0, .ref 6027), (3, .int (nI s)), (4, .int (nI w))] [] N (mC mM_findGame, mS mM_findGame) (QV K)) (fun w hw ih4 N f he bf h1 => ?_) (fun N f he bf h1 => ?_)
        · exact k4 N f he bf (fun x hx => absurd hx (by omega))
        · have hm := mr_w j.1 f.1
          obtain ⟨b1, b2, b3⟩ := bi_in s hs w hw
          obtain ⟨x1, x2, x3⟩ := bi_ix s hs w hw
          have go : ∀ O x, QF W M O → gi O 7582 = gi N 7582 → gi O 7502 = gi N 7502 → D3 x → (w = 1 → E 63 ≤ x) → (w = 0 → x ≤ E 63) → X mM_findGame 126 [(0, .ref 6027), (3, .int (nI s)), (4, .int (nI w))] [.int x, .int (((4 * nI s) + (2 * nI w)) + 1), .ref 7582] O (mC mM_findGame, mS mM_findGame) (QV K) := fun O x g g1 g2 d3 l1 l0 => vM_findGame_126 rfl ⟨b1, by
            rw [nI_s, show ((((4 * nI s) + (2 * nI w)) + 1 : Int32)).toNatClampNeg = 4 * s + 2 * w + 1 from x1]
            refine ih4 _ (qf_tr g (qf_sc (Or.inr (Or.inr rfl)))) (fun e h' => ?_) (fun u hu hl => bf_si (bf_eq g1 (bf u hu hl)) (by omega)) (fun y hy => ?_)
            · rw [giR _ _ _ _ _ _ (by decide), g2]; exact he e h'
            · by_cases z : y = w
              · subst z
                rw [gi_si, if_pos ⟨rfl, rfl⟩]; exact ⟨d3, l1, l0⟩
              · rw [gi_si, if_neg (fun q => by omega), g1]; exact h1 y (by omega)⟩
          refine vM_findGame_77 rfl (mr38 hm) (mr37 hm) ⟨fun _ => vin hs (by decide), fun q => absurd q (nge rfl (by decide) hw), fun q => ?_, fun q => ?_⟩
          · have ns : s < 63 := by
              have : ¬ s = 63 := fun z => q.2 (by rw [z]; rfl)
              omega
            obtain ⟨bb, hbb, fb⟩ := fre_ex s ns
            rw [ncl (show s < 2 ^ 31 by omega), he s hs]
            refine uM_bestTurn (W := W) (V := E 63) hm hs hw (fun b hb fb => ?_) ⟨bb, hbb, fb⟩ (fun O g g1 g2 _ => ?_)
            · obtain ⟨i1, i2⟩ := fre_ix s hs b hb w hw fb
              rw [i1]
              have p2 : 0 < 2 ^ b := Nat.two_pow_pos b
              exact ((bf (s + 2 ^ b) i2 (by omega)).1 (1 - w) (by omega)).1
            · obtain ⟨y1, y2, y3, -⟩ := gm_3 hw (E3 s hs) (E3 63 (by decide))
              exact go O _ (qf_tr f g) g1 g2 y1 y2 y3
          · rw [he 63 (by decide)]
            exact go N _ f rfl rfl (E3 63 (by decide)) (fun _ => Int32.le_refl _) (fun _ => Int32.le_refl _)
        · have hm := mr_w j.1 f.1
          refine vM_findGame_77 rfl (mr38 hm) (mr37 hm) ⟨fun q => absurd (nself rfl) q.1, fun _ => k3 N f he bf ⟨?_, ?_, ?_, ?_⟩ (fun x hx => absurd hx (by omega)), fun q => absurd (nself rfl) q.1, fun q => absurd (nself rfl) q.1⟩
          · exact (h1 0 (by decide)).1
          · exact (h1 1 (by decide)).1
          · exact (h1 1 (by decide)).2.1 rfl
          · exact (h1 0 (by decide)).2.2 rfl
      · have hm := mr_w j.1 f.1
        obtain ⟨b1, b2, b3⟩ := bi_in s hs w hw
        obtain ⟨x1, x2, x3⟩ := bi_ix s hs w hw
        have go : ∀ O x, QF W M O → gi O 7582 = gi N 7582 → gi O 7502 = gi N 7502 → x = E 63 → X mM_findGame 194 [(0, .ref 6027), (3, .int (nI s)), (4, .int (nI w))] [.int x, .int ((4 * nI s) + (2 * nI w)), .ref 7582] O (mC mM_findGame, mS mM_findGame) (QV K) := fun O x g g1 g2 ex => vM_findGame_194 rfl ⟨b3, by
          rw [nI_s, show (((4 * nI s) + (2 * nI w) : Int32)).toNatClampNeg = 4 * s + 2 * w from x3]
          have o : ∀ y, ¬ y = 4 * s + 2 * w → gi (si O 7582 (4 * s + 2 * w) x) 7582 y = gi N 7582 y := fun y hy => by rw [gi_si, if_neg (fun q => hy q.2), g1]
          refine ih3 _ (qf_tr g (qf_sc (Or.inr (Or.inr rfl)))) (fun e h' => ?_) (fun u hu hl => bf_si (bf_eq g1 (bf u hu hl)) (by omega)) ?_ (fun y hy => ?_)
          · rw [giR _ _ _ _ _ _ (by decide), g2]; exact he e h'
          · rw [o _ (by omega), o _ (by omega)]; exact h1
          · by_cases z : y = w
            · subst z
              rw [gi_si, if_pos ⟨rfl, rfl⟩]; exact ex
            · rw [o _ (by omega)]; exact h0 y (by omega)⟩
        refine vM_findGame_136 rfl (mr38 hm) (mr37 hm) ⟨fun _ => b2, fun q => absurd q (nge rfl (by decide) hw), fun q => ?_, fun q => ?_⟩
        · have ns : s < 63 := by
            have : ¬ s = 63 := fun z => q.2 (by rw [z]; rfl)
            omega
          obtain ⟨bb, hbb, fb⟩ := fre_ex s ns
          rw [show ((((4 * nI s) + (2 * (1 - nI w))) + 1 : Int32)).toNatClampNeg = 4 * s + 2 * (1 - w) + 1 from x2]
          refine uM_bestTurn (W := W) (V := E 63) hm hs hw (fun b hb fb => ?_) ⟨bb, hbb, fb⟩ (fun O g g1 g2 _ => ?_)
          · obtain ⟨i1, i2⟩ := fre_ix s hs b hb w hw fb
            rw [i1]
            have p2 : 0 < 2 ^ b := Nat.two_pow_pos b
            exact ((bf (s + 2 ^ b) i2 (by omega)).1 (1 - w) (by omega)).1
          · obtain ⟨d1, d3, l1, l0⟩ := h1
            have w2 : w = 0 ∨ w = 1 := by omega
            rcases w2 with rfl | rfl
            · obtain ⟨-, -, -, y4⟩ := gm_3 (w := 0) (by decide) d3 (E3 63 (by decide))
              exact go O _ (qf_tr f g) g1 g2 (y4 (fun z => absurd z (by decide)) (fun _ => l1)).1
            · obtain ⟨-, -, -, y4⟩ := gm_3 (w := 1) (by decide) d1 (E3 63 (by decide))
              exact go O _ (qf_tr f g) g1 g2 (y4 (fun _ => l0) (fun z => absurd z (by decide))).1
        · rw [he 63 (by decide)]
          exact go N _ f rfl rfl rfl
      · have hm := mr_w j.1 f.1
        refine vM_findGame_136 rfl (mr38 hm) (mr37 hm) ⟨fun q => absurd (nself rfl) q.1, fun _ => ?_, fun q => absurd (nself rfl) q.1, fun q => absurd (nself rfl) q.1⟩
        rw [e2]
        refine nxt N f he (fun u hu hl => ?_)
        by_cases z : u = s
        · subst z
          refine ⟨fun w hw => ⟨h0 w hw, ?_⟩, h1.2.2.1, h1.2.2.2⟩
          have w2 : w = 0 ∨ w = 1 := by omega
          rcases w2 with rfl | rfl
          · exact h1.1
          · exact h1.2.1
        · exact bf u hu (by omega)
    · refine vM_findGame_70 ⟨fun _ => h N f (b0 rfl) (fun b hb _ => bf _ ?_ ?_), fun q => absurd (by decide +kernel) q⟩
      · have : ∀ b, b < 6 → 2 ^ b < 64 := by decide
        exact this b hb
      · have : 0 < 2 ^ b := Nat.two_pow_pos b
        omega
def mGame (M : Mm) (W : Nat) (v k w : Int32) : Int32 := if (isC v && (isE k && isE w)) = true then (if w = 1 then 0 else if enE (rhe (si M 6027 9 (nI 63)) W v.toNatClampNeg) = 1 then 1 else if enE (rhe (si M 6027 9 (nI 63)) W v.toNatClampNeg) = -1 then 0 else -4) else -1
theorem uM_game {v k w : Int32} {K : Int32 → Mm → Prop} (j : JW M W) (hh : HD M) (h : ∀ N, QF W M N → K (mGame M W v k w) N) : CI mM_game [.ref 6027, .int v, .int k, .int w] M K := by
  have bad : (isC v && (isE k && isE w)) = false → K (-1) M := fun q => by
    have := h M (qf_rf W M)
    rw [mGame, q, if_neg (by decide)] at this
    exact this
  refine call_of rfl (Nat.le_of_ble_eq_true rfl) rfl (vM_game_0 (sM_isCase (fun q => vM_game_4 ⟨fun _ => bad (by rw [q]; rfl), fun q => absurd rfl q⟩) (fun i hi e => vM_game_4 ⟨fun q => absurd q (by decide), fun _ => sM_inE (fun q => vM_game_14 ⟨fun _ => bad (by rw [q, Bool.false_and, Bool.and_false]), fun q => absurd rfl q⟩) (fun qa => vM_game_14 ⟨fun q => absurd q (by decide), fun _ => sM_inE (fun q => vM_game_24 rfl ⟨fun q => absurd rfl q, fun _ => bad (by rw [q, Bool.and_false, Bool.and_false])⟩) (fun qw => vM_game_24 rfl ⟨fun _ => ?_, fun q => absurd q (by decide)⟩)⟩)⟩)))
  subst e
  clear bad
  refine uM_findGame (E := fun s => enE (rhe (si M 6027 9 (nI s)) W i)) j hh hi (fun _ _ => rfl) (fun N f b0 bb => ?_)
  have fin : ∀ N, QF W M N → K (if w = 1 then 0 else if enE (rhe (si M 6027 9 (nI 63)) W i) = 1 then 1 else if enE (rhe (si M 6027 9 (nI 63)) W i) = -1 then 0 else -4) N := fun N f => by
    have := h N f
    rw [mGame, yC hi, yE qa, yE qw, if_pos (show (true && (true && true)) = true from rfl), ncl (by omega)] at this
    exact this
  have V3 := enE_3 (rhe (si M 6027 9 (nI 63)) W i)
  change BF N (enE (rhe (si M 6027 9 (nI 63)) W i)) 0 at b0
  change ∀ b, b < 6 → fre 0 b → BF N (enE (rhe (si M 6027 9 (nI 63)) W i)) (2 ^ b) at bb
  generalize enE (rhe (si M 6027 9 (nI 63)) W i) = V at fin b0 bb V3
  have hm := mr_w j.1 f.1
  obtain ⟨u, hu, rfl⟩ : ∃ u, u < 2 ∧ k = nI u := by
    rcases qa with rfl | rfl
    · exact ⟨0, by decide, rfl⟩
    · exact ⟨1, by decide, rfl⟩
  have ix : ∀ k, k < 2 → ¬ ((2 * (1 - nI k)) + 1 < 0 ∨ 256 ≤ ((2 * (1 - nI k)) + 1).toNatClampNeg) ∧ ((2 * (1 - nI k)) + 1).toNatClampNeg = 2 * (1 - k) + 1 := by decide +kernel
  obtain ⟨ix1, ix2⟩ := ix u hu
  have f00 : fre 0 0 := by unfold fre; decide
  refine vM_game_34 rfl (mr38 hm) ⟨ix1, ?_⟩
  rw [ix2]
  have ps : D3 (gi N 7582 (2 * (1 - u) + 1)) ∧ (u = 1 → gi N 7582 (2 * (1 - u) + 1) ≤ V) ∧ (u = 0 → V ≤ gi N 7582 (2 * (1 - u) + 1)) := by
    obtain ⟨c1, c2, c3⟩ := b0
    have u2 : u = 0 ∨ u = 1 := by omega
    rcases u2 with rfl | rfl
    · exact ⟨(c1 1 (by decide)).2, fun z => absurd z (by decide), fun _ => c2⟩
    · exact ⟨(c1 0 (by decide)).2, fun _ => c3, fun z => absurd z (by decide)⟩
  obtain ⟨-, -, -, y4⟩ := gm_3 hu ps.1 V3
  obtain ⟨y5, y6⟩ := y4 ps.2.1 ps.2.2
  refine uM_bestTurn (s := 0) (W := W) (V := V) hm (by decide) hu (fun b hb fb => ?_) ⟨0, by decide, f00⟩ (fun O g g1 g2 g3 => vM_game_52 rfl ?_)
  · obtain ⟨i1, i2⟩ := fre_ix 0 (by decide) b hb u hu fb
    rw [i1, Nat.zero_add]
    exact ((bb b hb fb).1 (1 - u) (by omega)).1
  · rw [y5, g3 f00 y6]
    exact fin O (qf_tr f g)
theorem pz_game {v k w : Int32} {Z : Int32 → Int32 → Mm → Prop} (i0 : INY M) (h : ∀ r s N, INY N → r = s → Z r s N) : CI mC_game [.ref 10, .int v, .int k, .int w] M (fun r N => CI mM_game [.ref 6027, .int v, .int k, .int w] N (fun s O => Z r s O)) := by
  obtain ⟨L, P, R, S, U, D, W, t, i, ez⟩ := i0
  have c := i.1.1
  have hW : W ≤ 24 := i.2.1.2.1
  obtain ⟨G, ey⟩ := ez.2
  have key : ∀ N r, CQ M N → r = mGame N W v k w → CI mM_game [.ref 6027, .int v, .int k, .int w] N (fun s O => Z r s O) := fun N r f e => uM_game (iv_cq f i).2.1.1 (iv_cq f i).2.1.2.2.1 (fun O g => h _ _ O ⟨L, P, R, S, U, D, W, t, iv_qf g (iv_cq f i), ez_qf g (ez_cq f ez)⟩ e)
  have bad : (isC v && (isE k && isE w)) = false → CI mM_game [.ref 6027, .int v, .int k, .int w] M (fun s O => Z (-1) s O) := fun q => key M _ (cq_rf M) (by rw [mGame, q, if_neg (by decide)])
  have e11 := cx11 c
  have fB := cq_bgn M L R 63
  have cB := cx_cq fB c
  refine call_of rfl (Nat.le_of_ble_eq_true rfl) rfl (vC_game_0 (sC_isCase (fun q => vC_game_4 ⟨fun _ => bad (by rw [nC q]; rfl), fun q => absurd rfl q⟩) (fun j hj ej => vC_game_4 ⟨fun q => absurd q (by decide), fun _ => sC_isEither (fun q1 q2 => vC_game_11 ⟨fun _ => bad (by rw [nE q1 q2, Bool.false_and, Bool.and_false]), fun q => absurd rfl q⟩) (fun ea => vC_game_11 ⟨fun q => absurd q (by decide), fun _ => sC_isEither (fun q1 q2 => vC_game_18 rfl e11 (cx4 c) (cx6 c) ⟨fun q => absurd rfl q, fun _ => bad (by rw [nE q1 q2, Bool.and_false, Bool.and_false])⟩) (fun ew => vC_game_18 rfl e11 (cx4 c) (cx6 c) ⟨fun _ => sWe_begin (cxlr c) (cxL c) (cxR c) (vC_game_40 rfl (cx11 cB) ⟨fun q => key _ _ fB ?_, fun q => ?_⟩), fun q => absurd q (by decide)⟩)⟩)⟩)))
  · rw [ej, mGame, yC hj, yE ea, yE ew, if_pos (show (true && (true && true)) = true from rfl), if_pos (ew.resolve_left q)]
  · subst ej
    refine eWe_heldIn (cxw c _) (cxL c) (cxR c) hj (fun O qO _ => vC_game_52 ?_)
    have fO := cqb qO
    refine key O _ fO ?_
    have m : CMP (bgn M L R 63) (si O 6027 9 63) L R W G := cmp_9 i ez ey fO
    have r3 := rhe_3 m hW (hd_9 (iv_cq fO i).2.1.2.2.1) hj
    rw [mGame, yC hj, yE ea, yE ew, if_pos (show (true && (true && true)) = true from rfl), if_neg (by rw [q]; decide), ncl (by omega), heC_e m hW hj]
    show rhe (si O 6027 9 63) W j = if enE (rhe (si O 6027 9 63) W j) = 1 then 1 else if enE (rhe (si O 6027 9 63) W j) = -1 then 0 else -4
    rcases r3 with z | z | z <;> rw [z] <;> rfl
end EX1
end MG95
section MG96
/-! ===== a found word: what a doctor says then, on both sides ===== -/
def bet (W v : Nat) : Nat := if v < W then v else 24
section EX2
variable {A M N S : Mm} {L P R U D W t d m : Nat} {G : Nat → Nat → Int32} {a : Int32}
end EX2
end MG96
