/-! ===== the reference's reader: next ===== -/
theorem lk_lt {f : Int32 → Bool} {T : Nat → Int32} {t q : Nat} (h : f (lk T t q) = true) (hf : f (-1) = false) : q < t := by
  by_cases l : t ≤ q
  · rw [lk, if_pos l, hf] at h; exact absurd h (by decide)
  · omega
theorem sM_next1 {M : Mm} {K : Mm → Prop} (hf : ¬ gi M 6027 16 ≤ 0) (h : K M) : CV mM_next [.ref 6027] M K :=
  call_of rfl (Nat.le_of_ble_eq_true rfl) rfl (vM_next_0 rfl ⟨fun q => absurd q hf, fun _ => h⟩)
theorem i97 {c : Int32} {K : Int32 → Mm → Prop} {M : Mm} (h0 : isA c = false → K 0 M) (h1 : isA c = true → K 1 M) : CI mM_in [.long c.toInt64, .long 97, .long 122] M K :=
  sM_in (l := 97) (m := 122) rfl rfl (fun q => h0 (decide_eq_false (fun r => q.elim r.1 r.2))) (fun q1 q2 => h1 (decide_eq_true ⟨q1, q2⟩))
theorem i48 {c : Int32} {K : Int32 → Mm → Prop} {M : Mm} (h0 : isF c = false → K 0 M) (h1 : isF c = true → K 1 M) : CI mM_in [.long c.toInt64, .long 48, .long 57] M K :=
  sM_in (l := 48) (m := 57) rfl rfl (fun q => h0 (decide_eq_false (fun r => q.elim r.1 r.2))) (fun q1 q2 => h1 (decide_eq_true ⟨q1, q2⟩))
theorem sM_next {M : Mm} {T : Nat → Int32} {t p : Nat} {K : Mm → Prop} (tp : TP M T t) (hp : gi M 6027 12 = nI p) (hp2 : p ≤ 400) (hf : gi M 6027 16 = 0) (h : ∀ N, NX T t p M N → K N) : CV mM_next [.ref 6027] M K := by
  have ht2 := tp.2.2.1
  refine call_of rfl (Nat.le_of_ble_eq_true rfl) rfl (vM_next_0 rfl ⟨fun _ => ?_, fun q => absurd (by rw [hf]; exact Int32.le_refl _) q⟩)
  generalize e1 : nx1 T t p = p1
  have hh : ∀ N, PF M N → gi N 6027 13 = nI p1 → _ → K N := fun N a b c => h N ⟨a, by rw [e1]; exact b, c⟩
  rw [e1] at hh
  have from1 : ∀ N, p1 ≤ 400 → PF M N → gi N 6027 12 = nI p1 → (∀ k, k ≠ 12 → gi N 6027 k = gi M 6027 k) → CI mM_look [.ref 6027, .int (gi (si N 6027 13 (gi N 6027 12)) 6027 12)] (si N 6027 13 (gi N 6027 12)) (fun rv N => X mM_next 50 [(0, .ref 6027)] [.int rv] N (mC mM_next, mS mM_next) (QV K)) := by
    intro N h400 f h12 hk
    rw [h12, g6 _ _ _ _ (by decide), h12]
    have f1 := pf_si (k := 13) (v := nI p1) f (by decide) (by decide)
    have k12 : gi (si N 6027 13 (nI p1)) 6027 12 = nI p1 := by rw [g6 _ _ _ _ (by decide)]; exact h12
    have k13 : gi (si N 6027 13 (nI p1)) 6027 13 = nI p1 := g6s _ _ _
    have kk : ∀ k, k ≠ 12 → k ≠ 13 → gi (si N 6027 13 (nI p1)) 6027 k = gi M 6027 k := fun k a b => by rw [g6 _ _ _ _ b]; exact hk k a
    generalize si N 6027 13 (nI p1) = N1 at f1 k12 k13 kk ⊢
    refine sM_look (tp_pf f1 tp) (by omega) (vM_next_50 rfl ⟨fun q => i97 (fun a => vM_next_74 rfl ⟨fun _ => i48 (fun b => ?_) (fun b => ?_), fun q => absurd rfl q⟩) (fun a => vM_next_74 rfl ⟨fun q => absurd q (by decide), fun _ => ?_⟩), fun q => ?_⟩)
    · have c0 : ¬ lk T t p1 < 0 := Int32.not_lt.mpr q
      have b280 : ∀ s O, s = (if lk T t p1 = 45 then (3 : Int32) else 4) → PF M O → gi O 6027 12 = nI p1 → gi O 6027 13 = nI p1 → gi O 6027 14 = s → gi O 6027 15 = gi M 6027 15 → (if lk T t p1 = 45 ∨ lk T t p1 = 59 then gi O 6027 16 = gi M 6027 16 ∧ gi O 6027 17 = gi M 6027 17 else gi O 6027 16 = 1 ∧ gi O 6027 17 = nI p1) → X mM_next 280 [(0, .ref 6027)] [] O (mC mM_next, mS mM_next) (QV K) := by
        intro s O hs fO o12 o13 o14 o15 o16
        refine vM_next_280 rfl ?_
        rw [o12, nI_s]
        refine hh _ (pf_si fO (by decide) (by decide)) (by rw [g6 _ _ _ _ (by decide)]; exact o13) (Or.inr (Or.inr (Or.inr ⟨c0, a, b, g6s _ _ _, ?_, ?_, ?_⟩)))
        · rw [g6 _ _ _ _ (by decide), o14, hs]
        · rw [g6 _ _ _ _ (by decide), o15]
        · rw [g6 _ _ _ _ (by decide), g6 _ _ _ _ (by decide)]; exact o16
      have b255 : ∀ s, s = (if lk T t p1 = 45 then (3 : Int32) else 4) → X mM_next 255 [(0, .ref 6027), (1, .int (lk T t p1))] [.int s, .ref 6027] N1 (mC mM_next, mS mM_next) (QV K) := by
        intro s hs
        have f2 := pf_si (k := 14) (v := s) f1 (by decide) (by decide)
        refine vM_next_255 rfl ⟨fun r => vM_next_276 rfl (sM_wants (fun _ => ?_) (fun z => absurd z (by decide))), fun r => vM_next_276 rfl (sM_wants (fun z => ?_) (fun _ _ => ?_))⟩
        · refine b280 s _ hs f2 (by rw [g6 _ _ _ _ (by decide)]; exact k12) (by rw [g6 _ _ _ _ (by decide)]; exact k13) (g6s _ _ _) (by rw [g6 _ _ _ _ (by decide)]; exact kk 15 (by decide) (by decide)) ?_
          rw [if_pos (r.imp id (fun r => r.2)), g6 _ _ _ _ (by decide), g6 _ _ _ _ (by decide)]
          exact ⟨kk 16 (by decide) (by decide), kk 17 (by decide) (by decide)⟩
        · exfalso
          rw [g6 _ _ _ _ (by decide), kk 16 (by decide) (by decide), hf] at z
          rcases z with z | z <;> exact z rfl
        · have f3 := pf_si (k := 17) (v := gi (si N1 6027 14 s) 6027 13) (pf_si (k := 16) (v := 1) f2 (by decide) (by decide)) (by decide) (by decide)
          refine b280 s _ hs f3 ?_ ?_ ?_ ?_ ?_
          · rw [g6 _ _ _ _ (by decide), g6 _ _ _ _ (by decide), g6 _ _ _ _ (by decide)]; exact k12
          · rw [g6 _ _ _ _ (by decide), g6 _ _ _ _ (by decide), g6 _ _ _ _ (by decide)]; exact k13
          · rw [g6 _ _ _ _ (by decide), g6 _ _ _ _ (by decide), g6s]
          · rw [g6 _ _ _ _ (by decide), g6 _ _ _ _ (by decide), g6 _ _ _ _ (by decide)]; exact kk 15 (by decide) (by decide)
          · rw [if_neg (fun n => n.elim r.1 r.2), g6 _ _ _ _ (by decide), g6s, g6s, g6 _ _ _ _ (by decide)]
            exact ⟨rfl, k13⟩
      exact vM_next_127 rfl ⟨fun r => b255 4 (by rw [if_neg r.2]), fun r => b255 3 (by rw [if_pos r.2]), fun r => absurd rfl r⟩
    · have c0 : ¬ lk T t p1 < 0 := Int32.not_lt.mpr q
      refine vM_next_127 rfl ⟨fun r => absurd r.1 (by decide), fun r => absurd r.1 (by decide), fun _ => ?_⟩
      have key : ∀ n k N, t ≤ p1 + k + n → p1 + k ≤ 400 → PF M N → gi N 6027 12 = nI (p1 + k) → gi N 6027 13 = nI p1 → gi N 6027 14 = 2 → gi N 6027 15 = vlf T t p1 k → gi N 6027 16 = gi M 6027 16 → gi N 6027 17 = gi M 6027 17 → rn isF T t n (p1 + k) = rn isF T t 401 p1 → X mM_next 140 [(0, .ref 6027)] [] N (mC mM_next, mS mM_next) (QV K) := by
        intro n
        induction n with
        | zero =>
          intro k N ht hk4 fN n12 n13 n14 n15 n16 n17 e
          rw [rn] at e
          have ek : rn isF T t 401 p1 - p1 = k := by omega
          refine vM_next_140 rfl ?_
          rw [n12]
          refine sM_look (tp_pf fN tp) (by omega) (vM_next_148 (i48 (fun d => ?_) (fun d => absurd (lk_lt d (by decide)) (by omega))))
          refine vM_next_158 rfl ⟨fun r => vM_next_236 rfl (sM_wants (fun z => ?_) (fun _ _ => vM_next_240 ?_)), fun r => vM_next_236 rfl (sM_wants (fun _ => vM_next_240 ?_) (fun z => absurd z (by decide))), fun r => absurd rfl r.1, fun r => absurd rfl r.1⟩
          · exfalso
            rw [n16, hf] at z
            rcases z with z | z <;> exact z rfl
          · have r3 : ¬ k ≤ 3 := by
              have r2 := r.2
              rw [n12, n13, nsub (by omega), show p1 + k - p1 = k by omega] at r2
              have : nI 3 < nI k := r2
              rw [nlt (by omega) (by decide)] at this
              omega
            refine hh _ (pf_si (pf_si fN (by decide) (by decide)) (by decide) (by decide)) ?_ (Or.inr (Or.inr (Or.inl ⟨c0, a, b, ?_, ?_, ?_, ?_⟩)))
            · rw [g6 _ _ _ _ (by decide), g6 _ _ _ _ (by decide)]; exact n13
            · rw [g6 _ _ _ _ (by decide), g6 _ _ _ _ (by decide), n12, e]
            · rw [g6 _ _ _ _ (by decide), g6 _ _ _ _ (by decide), n14]
            · rw [g6 _ _ _ _ (by decide), g6 _ _ _ _ (by decide), n15, ek]
            · rw [ek, if_neg r3, g6 _ _ _ _ (by decide), g6s, g6s]; exact ⟨rfl, n13⟩
          · have r3 : k ≤ 3 := by
              have r2 := r.2
              rw [n12, n13, nsub (by omega), show p1 + k - p1 = k by omega] at r2
              have : ¬ nI 3 < nI k := r2
              rw [nlt (by omega) (by decide)] at this
              omega
            refine hh N fN n13 (Or.inr (Or.inr (Or.inl ⟨c0, a, b, by rw [n12, e], n14, by rw [n15, ek], ?_⟩)))
            rw [ek, if_pos r3]; exact ⟨n16, n17⟩
        | succ n ih =>
          intro k N ht hk4 fN n12 n13 n14 n15 n16 n17 e
          rw [rn] at e
          refine vM_next_140 rfl ?_
          rw [n12]
          refine sM_look (tp_pf fN tp) (by omega) (vM_next_148 (i48 (fun d => ?_) (fun d => ?_)))
          · rw [d, if_neg (by decide)] at e
            have ek : rn isF T t 401 p1 - p1 = k := by omega
            refine vM_next_158 rfl ⟨fun r => vM_next_236 rfl (sM_wants (fun z => ?_) (fun _ _ => vM_next_240 ?_)), fun r => vM_next_236 rfl (sM_wants (fun _ => vM_next_240 ?_) (fun z => absurd z (by decide))), fun r => absurd rfl r.1, fun r => absurd rfl r.1⟩
            · exfalso
              rw [n16, hf] at z
              rcases z with z | z <;> exact z rfl
            · have r3 : ¬ k ≤ 3 := by
                have r2 := r.2
                rw [n12, n13, nsub (by omega), show p1 + k - p1 = k by omega] at r2
                have : nI 3 < nI k := r2
                rw [nlt (by omega) (by decide)] at this
                omega
              refine hh _ (pf_si (pf_si fN (by decide) (by decide)) (by decide) (by decide)) ?_ (Or.inr (Or.inr (Or.inl ⟨c0, a, b, ?_, ?_, ?_, ?_⟩)))
              · rw [g6 _ _ _ _ (by decide), g6 _ _ _ _ (by decide)]; exact n13
              · rw [g6 _ _ _ _ (by decide), g6 _ _ _ _ (by decide), n12, e]
              · rw [g6 _ _ _ _ (by decide), g6 _ _ _ _ (by decide), n14]
              · rw [g6 _ _ _ _ (by decide), g6 _ _ _ _ (by decide), n15, ek]
              · rw [ek, if_neg r3, g6 _ _ _ _ (by decide), g6s, g6s]; exact ⟨rfl, n13⟩
            · have r3 : k ≤ 3 := by
                have r2 := r.2
                rw [n12, n13, nsub (by omega), show p1 + k - p1 = k by omega] at r2
                have : ¬ nI 3 < nI k := r2
                rw [nlt (by omega) (by decide)] at this
                omega
              refine hh N fN n13 (Or.inr (Or.inr (Or.inl ⟨c0, a, b, by rw [n12, e], n14, by rw [n15, ek], ?_⟩)))
              rw [ek, if_pos r3]; exact ⟨n16, n17⟩
          · have lt := lk_lt d (by decide)
            rw [d, if_pos rfl] at e
            have go : ∀ x, x = vlf T t p1 (k + 1) → X mM_next 201 [(0, .ref 6027)] [.int x, .ref 6027] N (mC mM_next, mS mM_next) (QV K) := by
              rintro x rfl
              refine vM_next_201 rfl rfl ?_
              rw [g6 _ _ _ _ (by decide), n12, nI_s]
              refine ih (k + 1) _ (by omega) (by omega) (pf_si (pf_si fN (by decide) (by decide)) (by decide) (by decide)) (g6s _ _ _) ?_ ?_ ?_ ?_ ?_ e
              · rw [g6 _ _ _ _ (by decide), g6 _ _ _ _ (by decide)]; exact n13
              · rw [g6 _ _ _ _ (by decide), g6 _ _ _ _ (by decide)]; exact n14
              · rw [g6 _ _ _ _ (by decide), g6s]
              · rw [g6 _ _ _ _ (by decide), g6 _ _ _ _ (by decide)]; exact n16
              · rw [g6 _ _ _ _ (by decide), g6 _ _ _ _ (by decide)]; exact n17
            have r3 : (3 ≤ gi N 6027 12 - gi N 6027 13) ↔ 3 ≤ k := by
              rw [n12, n13, nsub (by omega), show p1 + k - p1 = k by omega]
              exact nle (n := 3) (by omega) (by decide)
            refine vM_next_158 rfl ⟨fun r => absurd r.1 (by decide), fun r => absurd r.1 (by decide), fun r => go _ ?_, fun r => ?_⟩
            · rw [vlf, if_neg (by have := r3.mp r.2; omega)]; exact n15
            · rw [n12, n15]
              refine sM_look (tp_pf fN tp) (by omega) (vM_next_190 (go _ ?_))
              rw [vlf, if_pos (by have : ¬ 3 ≤ k := fun l => r.2 (r3.mpr l); omega)]
      refine key 401 0 _ (by omega) h400 (pf_si (pf_si f1 (by decide) (by decide)) (by decide) (by decide)) ?_ ?_ ?_ ?_ ?_ ?_ rfl
      · rw [g6 _ _ _ _ (by decide), g6 _ _ _ _ (by decide)]; exact k12
      · rw [g6 _ _ _ _ (by decide), g6 _ _ _ _ (by decide)]; exact k13
      · rw [g6 _ _ _ _ (by decide), g6s]
      · rw [g6s]; rfl
      · rw [g6 _ _ _ _ (by decide), g6 _ _ _ _ (by decide)]; exact kk 16 (by decide) (by decide)
      · rw [g6 _ _ _ _ (by decide), g6 _ _ _ _ (by decide)]; exact kk 17 (by decide) (by decide)
    · have c0 : ¬ lk T t p1 < 0 := Int32.not_lt.mpr q
      have key : ∀ n r N, t ≤ r + n → r ≤ 400 → PF M N → gi N 6027 12 = nI r → gi N 6027 13 = nI p1 → gi N 6027 14 = 1 → (∀ k, k = 15 ∨ k = 16 ∨ k = 17 → gi N 6027 k = gi M 6027 k) → rn isA T t n r = rn isA T t 401 p1 → X mM_next 82 [(0, .ref 6027)] [] N (mC mM_next, mS mM_next) (QV K) := by
        intro n
        induction n with
        | zero =>
          intro r N ht hr fN n12 n13 n14 nk e
          rw [rn] at e
          refine vM_next_82 rfl ?_
          rw [n12]
          refine sM_look (tp_pf fN tp) (by omega) (vM_next_90 (i97 (fun d => vM_next_100 rfl ⟨fun _ => ?_, fun z => absurd rfl z⟩) (fun d => absurd (lk_lt d (by decide)) (by omega))))
          exact hh N fN n13 (Or.inr (Or.inl ⟨c0, a, by rw [n12, e], n14, nk 15 (by decide), nk 16 (by decide), nk 17 (by decide)⟩))
        | succ n ih =>
          intro r N ht hr fN n12 n13 n14 nk e
          rw [rn] at e
          refine vM_next_82 rfl ?_
          rw [n12]
          refine sM_look (tp_pf fN tp) (by omega) (vM_next_90 (i97 (fun d => vM_next_100 rfl ⟨fun _ => ?_, fun z => absurd rfl z⟩) (fun d => vM_next_100 rfl ⟨fun z => absurd z (by decide), fun _ => ?_⟩)))
          · rw [d, if_neg (by decide)] at e
            exact hh N fN n13 (Or.inr (Or.inl ⟨c0, a, by rw [n12, e], n14, nk 15 (by decide), nk 16 (by decide), nk 17 (by decide)⟩))
          · have lt := lk_lt d (by decide)
            rw [d, if_pos rfl] at e
            rw [n12, nI_s]
            refine ih (r + 1) _ (by omega) (by omega) (pf_si fN (by decide) (by decide)) (g6s _ _ _) ?_ ?_ (fun k hk => ?_) e
            · rw [g6 _ _ _ _ (by decide)]; exact n13
            · rw [g6 _ _ _ _ (by decide)]; exact n14
            · rw [g6 _ _ _ _ (by omega)]; exact nk k hk
      refine key 401 p1 _ (by omega) h400 (pf_si f1 (by decide) (by decide)) ?_ ?_ (g6s _ _ _) (fun k hk => ?_) rfl
      · rw [g6 _ _ _ _ (by decide)]; exact k12
      · rw [g6 _ _ _ _ (by decide)]; exact k13
      · rw [g6 _ _ _ _ (by omega)]; exact kk k (by omega) (by omega)
    · have c0 : lk T t p1 < 0 := Int32.not_le.mp q
      refine hh _ (pf_si f1 (by decide) (by decide)) (by rw [g6 _ _ _ _ (by decide)]; exact k13) (Or.inl ⟨c0, ?_, g6s _ _ _, ?_, ?_, ?_⟩)
      · rw [g6 _ _ _ _ (by decide)]; exact k12
      · rw [g6 _ _ _ _ (by decide)]; exact kk 15 (by decide) (by decide)
      · rw [g6 _ _ _ _ (by decide)]; exact kk 16 (by decide) (by decide)
      · rw [g6 _ _ _ _ (by decide)]; exact kk 17 (by decide) (by decide)
  have key : ∀ n q N, t ≤ q + n → q ≤ 400 → PF M N → gi N 6027 12 = nI q → (∀ k, k ≠ 12 → gi N 6027 k = gi M 6027 k) → rn isB T t n q = p1 → X mM_next 8 [(0, .ref 6027)] [] N (mC mM_next, mS mM_next) (QV K) := by
    intro n
    induction n with
    | zero =>
      intro q N ht hq fN n12 nk e
      rw [rn] at e
      subst e
      refine vM_next_8 rfl ?_
      rw [n12]
      refine sM_look (tp_pf fN tp) (by omega) (vM_next_16 rfl ⟨fun _ => from1 N hq fN n12 nk, fun z => absurd (lk_lt (f := isB) (decide_eq_true z) (by decide)) (by omega)⟩)
    | succ n ih =>
      intro q N ht hq fN n12 nk e
      rw [rn] at e
      refine vM_next_8 rfl ?_
      rw [n12]
      refine sM_look (tp_pf fN tp) (by omega) (vM_next_16 rfl ⟨fun z => ?_, fun z => ?_⟩)
      · rw [show isB (lk T t q) = false from decide_eq_false z, if_neg (by decide)] at e
        subst e
        exact from1 N hq fN n12 nk
      · have d : isB (lk T t q) = true := decide_eq_true z
        have lt := lk_lt d (by decide)
        rw [d, if_pos rfl] at e
        rw [n12, nI_s]
        exact ih (q + 1) _ (by omega) (by omega) (pf_si fN (by decide) (by decide)) (g6s _ _ _) (fun k hk => by rw [g6 _ _ _ _ hk]; exact nk k hk) e
  exact key 401 p M (by omega) hp2 (pf_rf M) hp (fun _ _ => rfl) e1
