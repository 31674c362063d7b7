/-! ===== the class weighs all words, exactly ===== -/
/-- the end of a word's following -/
def eng (g : Nat → Nat → Int32) : Nat → Nat → Nat
  | 0, v => v
  | n + 1, v => if g v 6 = -4 then v else eng g n (g v 6).toNatClampNeg
theorem eng_0 {g : Nat → Nat → Int32} {v : Nat} (h : g v 6 = -4) : ∀ n, eng g n v = v
  | 0 => rfl
  | n + 1 => by rw [eng, if_pos h]
theorem eng_f {g : Nat → Nat → Int32} {v f n : Nat} (hf : f < 24) (h : g v 6 = nI f) : eng g (n + 1) v = eng g n f := by
  rw [eng, h, if_neg (nI4 (by omega)), ncl (by omega)]
theorem eng_s {g : Nat → Nat → Int32} : ∀ m v, chs g m v → ∀ n, m ≤ n → eng g n v = eng g m v
  | 0, v, h, n, _ => by rw [eng_0 h n]; rfl
  | m + 1, v, ⟨f, hf, e, h⟩, n, hn => by
    obtain ⟨k, rfl⟩ : ∃ k, n = k + 1 := ⟨n - 1, by omega⟩
    rw [eng_f hf e, eng_f hf e]
    exact eng_s m f h k (by omega)
theorem eng_cg {g g' : Nat → Nat → Int32} {D : Nat} (hD : D ≤ 24) (h : ∀ w, w < D → g w 6 = g' w 6) (k : ∀ w, w < D → g w 6 = -4 ∨ ∃ f, f < D ∧ g w 6 = nI f) : ∀ n v, v < D → eng g n v = eng g' n v ∧ eng g n v < D
  | 0, v, hv => ⟨rfl, hv⟩
  | n + 1, v, hv => by
    rw [eng, eng, ← h v hv]
    rcases k v hv with e | ⟨f, hf, e⟩
    · rw [if_pos e, if_pos e]; exact ⟨rfl, hv⟩
    · rw [e, if_neg (nI4 (by omega)), if_neg (nI4 (by omega)), ncl (by omega)]
      exact eng_cg hD h k n f hf
/-- a sound word's weight -/
def wgv (g : Nat → Nat → Int32) (v : Nat) : Int32 := co (g (eng g 25 v) 3) 32 + co (g (eng g 25 v) 4) 32
theorem co_64 : ∀ m, m < 64 → co (nI m) 32 = nI (pc8 m) := by decide +kernel
theorem pc_64 : ∀ m, m < 64 → ∀ k, k < 64 → (nI m &&& nI k) = 0 → pc8 m + pc8 k ≤ 6 := by decide +kernel
/-- a row's marks are apart -/
def MD (g : Nat → Nat → Int32) (w : Nat) : Prop := (∃ m, m < 64 ∧ g w 3 = nI m) ∧ (∃ m, m < 64 ∧ g w 4 = nI m) ∧ (g w 3 &&& g w 4) = 0
theorem md_w {g : Nat → Nat → Int32} {w : Nat} (h : MD g w) : ∃ k, k < 7 ∧ co (g w 3) 32 + co (g w 4) 32 = nI k := by
  obtain ⟨⟨m, hm, em⟩, ⟨n, hn, e2⟩, hd⟩ := h
  rw [em, e2] at hd
  have := pc_64 m hm n hn hd
  rw [em, e2, co_64 m hm, co_64 n hn, nadd]
  exact ⟨_, by omega, rfl⟩
/-- weights and the words' ninth field alone change -/
def F6 (r : Nat) (M N : Mm) : Prop := gr N = gr M ∧ gl N = gl M ∧ (∀ a, a ≠ r + 590 → (∀ w, w < 24 → a ≠ r + 776 + 64 * w) → gi N a = gi M a) ∧ ∀ w, w < 24 → ∀ k, k ≠ 9 → gi N (r + 776 + 64 * w) k = gi M (r + 776 + 64 * w) k
theorem f6_tr {r : Nat} {M N O : Mm} (f : F6 r M N) (g : F6 r N O) : F6 r M O := ⟨g.1.trans f.1, g.2.1.trans f.2.1, fun a h1 h2 => (g.2.2.1 a h1 h2).trans (f.2.2.1 a h1 h2), fun w hw k hk => (g.2.2.2 w hw k hk).trans (f.2.2.2 w hw k hk)⟩
theorem f6_9 {r w : Nat} {M : Mm} {v : Int32} (hw : w < 24) : F6 r M (si M (r + 776 + 64 * w) 9 v) := by
  refine ⟨rfl, rfl, fun a h1 h2 => gi_ne (h2 w hw), fun x hx k hk => ?_⟩
  rw [gi_si, if_neg (fun e => hk e.2)]
theorem f6_si {r j : Nat} {M : Mm} {v : Int32} : F6 r M (si M (r + 590) j v) := ⟨rfl, rfl, fun a h1 _ => gi_ne h1, fun w hw k hk => by rw [giR _ _ _ _ _ _ (by omega)]⟩
theorem f6_fl {r n : Nat} {M : Mm} {v : Int32} : F6 r M (fl M (r + 590) n v) := by
  refine ⟨rfl, rfl, fun a h1 _ => ?_, fun w hw k hk => ?_⟩
  · funext k; rw [flR _ _ _ _ _ _ h1]
  · rw [flR _ _ _ _ _ _ (by omega)]
theorem f6_st {r : Nat} {M N : Mm} (f : F6 r M N) : ST r M N := by
  obtain ⟨f1, f2, f3, f4⟩ := f
  refine ⟨f1, f2, by rw [f3 r (by omega) (fun w hw => by omega)], fun v hv i hi => f4 v hv i (by omega), fun a ha => f3 a (by omega) (fun w hw => by omega), f3 _ (by omega) (fun w hw => by omega)⟩
section ES3
variable {M : Mm} {r D : Nat} {g : Nat → Nat → Int32} {u : Int32}
theorem eS_weightOf {w : Nat} {K : Int32 → Mm → Prop} (l : LD M r D) (hw : w < D) (eg : ∀ w, w < D → ∀ i, i < 7 → gi M (r + 776 + 64 * w) i = g w i) (hu : gi M r 13 = u) (h1 : bt u w = true → ∀ v, K v M) (h2 : bt u w = false → (∃ n, n < D ∧ chs g n w) ∧ K (wgv g w) M) : CI mLi_weightOf [.ref r, .int (nI w)] M K := by
  have hl := l.1
  have hD := l.2.2.1
  by_cases su : bt u w = true
  · exact lS_weightOf l hw (h1 su)
  · have sf : bt u w = false := by simpa using su
    obtain ⟨⟨n, hn, hc⟩, h⟩ := h2 sf
    have b65 : ∀ v, v < D → eng g 25 w = v → X mLi_weightOf 65 [(0, .ref r), (2, .int (nI v))] [] M (mC mLi_weightOf, mS mLi_weightOf) (QI K) := by
      intro v hv e
      refine vLi_weightOf_65 hl.1 (lr0 hl) ⟨ld_v l hv, r + 776 + 64 * v, ld_gw l (by omega), sJi_bitCount (fun x ex => vLi_weightOf_77 hl.1 (lr0 hl) ⟨ld_v l hv, r + 776 + 64 * v, ld_gw l (by omega), sJi_bitCount (fun y ey => vLi_weightOf_89 ?_)⟩)⟩
      rw [ex, ey, bc_co, bc_co, eg v hv 3 (by decide), eg v hv 4 (by decide)]
      unfold wgv at h
      rw [e] at h
      exact h
    have e0 : eng g n w = eng g 25 w := (eng_s n w hc 25 (by omega)).symm
    have b25 : X mLi_weightOf 25 [(0, .ref r), (1, .int (nI w))] [] M (mC mLi_weightOf, mS mLi_weightOf) (QI K) := by
      refine vLi_weightOf_25 ?_
      refine lp D (P := fun i => ∀ v m, v < D → i + m = n → chs g m v → eng g m v = eng g 25 w → X mLi_weightOf 29 [(0, .ref r), (2, .int (nI v)), (3, .int (nI i))] [] M (mC mLi_weightOf, mS mLi_weightOf) (QI K)) (fun i hi ih v m hv hm hcv ev => ?_) (fun v m hv hm _ _ => absurd hm (by omega)) w n hw (by omega) hc e0
      obtain ⟨-, -, -, hf⟩ := l.2.2.2 v hv
      refine vLi_weightOf_29 hl.1 (lr0 hl) ⟨fun q => absurd q (ld_le l hi), fun _ => ⟨ld_v l hv, r + 776 + 64 * v, ld_gw l (by omega), fun q => b65 v hv ?_, fun q => ⟨ld_v l hv, r + 776 + 64 * v, ld_gw l (by omega), ?_⟩⟩⟩
      · rw [eg v hv 6 (by decide)] at q
        cases m with
        | zero => rw [← ev]; rfl
        | succ m =>
          obtain ⟨f, hf', e, -⟩ := hcv
          rw [e] at q
          exact absurd q (n0 f (by omega))
      · rw [eg v hv 6 (by decide)] at q ⊢
        cases m with
        | zero =>
          have z : g v 6 = -4 := hcv
          rw [z] at q
          exact absurd (by decide) q
        | succ m =>
          obtain ⟨f, hf', e, hcf⟩ := hcv
          have fD : f < D := by
            obtain ⟨x, hx, ex⟩ := hf.resolve_left (by rw [eg v hv 6 (by decide)]; exact q)
            rw [eg v hv 6 (by decide), e, ninj (by omega) (by omega)] at ex
            omega
          rw [e, nI_s]
          exact ih f m fD (by omega) hcf (by rw [← ev, eng_f hf' e])
    refine call_of rfl (Nat.le_of_ble_eq_true rfl) rfl (vLi_weightOf_0 hl.1 (lr0 hl) ⟨ld_v l hw, r + 776 + 64 * w, ld_gw l (by omega), fun _ => b25, fun _ => sC_holds (vLi_weightOf_20 ⟨fun _ => b25, fun q => ?_⟩)⟩)
    exfalso
    rw [hu, if_neg (fun z => su ((bitu _ (by omega)).mp z))] at q
    exact q rfl
/-- the words of a weight, those less than n -/
def WT (N : Mm) (r : Nat) (g : Nat → Nat → Int32) (u : Int32) (n : Nat) : Prop := ∀ k, k < 7 → ∀ v, v < 32 → (n ≤ v → bt (gi N (r + 590) k) v = false) ∧ (v < n → bt u v = false → (bt (gi N (r + 590) k) v = true ↔ wgv g v = nI k))
theorem eS_weighAll {K : Mm → Prop} (l : LD M r D) (eg : ∀ w, w < D → ∀ i, i < 7 → gi M (r + 776 + 64 * w) i = g w i) (hu : gi M r 13 = u) (hc : ∀ w, w < D → bt u w = false → ∃ n, n < D ∧ chs g n w) (hk : ∀ w, w < D → bt u w = false → ∃ k, k < 7 ∧ wgv g w = nI k) (h : ∀ N, F6 r M N → WT N r g u D → K N) : CV mLi_weighAll [.ref r] M K := by
  have hl := l.1
  have hD := l.2.2.1
  refine call_of rfl (Nat.le_of_ble_eq_true rfl) rfl (vLi_weighAll_0 hl.1 (lr9 hl) (sJr_fill (lrk hl 590 15 rfl (by decide)) ak_15 (by decide) (vLi_weighAll_8 ?_)))
  refine lp D (P := fun i => ∀ N, F6 r M N → WT N r g u i → X mLi_weighAll 10 [(0, .ref r), (1, .int (nI i))] [] N (mC mLi_weighAll, mS mLi_weighAll) (QV K)) (fun i hi ih N fN wN => ?_) (fun N fN wN => ?_) _ f6_fl (fun k hk v hv => ⟨fun _ => by rw [gi_fl, if_pos ⟨rfl, hk⟩, b_0], fun z => absurd z (by omega)⟩)
  · have lN := ld_st (f6_st fN) l
    have egN : ∀ w, w < D → ∀ j, j < 7 → gi N (r + 776 + 64 * w) j = g w j := fun w hw j hj => by rw [fN.2.2.2 w (by omega) j (by omega)]; exact eg w hw j hj
    have uN : gi N r 13 = u := by rw [fN.2.2.1 r (by omega) (fun w hw => by omega)]; exact hu
    have go : ∀ v, (bt u i = false → v = wgv g i) → X mLi_weighAll 23 [(0, .ref r), (1, .int (nI i))] [.int v] N (mC mLi_weighAll, mS mLi_weighAll) (QV K) := by
      intro v hv
      refine vLi_weighAll_23 hl.1 (lr0 lN.1) (lr9 lN.1) ⟨ld_v lN hi, r + 776 + 64 * i, ld_gw lN (by omega), fun q => ?_, fun q => ?_, fun q => ⟨?_, ?_⟩⟩
      · obtain ⟨k, hk, ek⟩ := rng (c := 7) (n := 7) rfl (by decide) q.1 q.2
        rw [ek]; exact vin hk (by decide)
      · rw [nI_s]
        refine ih _ (f6_tr fN (f6_9 (by omega))) (fun k hk' x hx => ?_)
        rw [giR _ _ _ _ _ _ (by omega)]
        obtain ⟨a, b⟩ := wN k hk' x hx
        refine ⟨fun z => a (by omega), fun z y => ?_⟩
        by_cases e : x = i
        · subst e
          exfalso
          obtain ⟨k0, hk0, ek0⟩ := hk x hi y
          rw [hv y, ek0, show (7 : Int32) = nI 7 from rfl] at q
          rcases q with q | q
          · exact n0 k0 (by omega) q
          · have := (nle (by omega) (by omega)).mp q.2
            omega
        · exact b (by omega) y
      · obtain ⟨k, hk, ek⟩ := rng (c := 7) (n := 7) rfl (by decide) q.1 q.2
        rw [ek]; exact vin hk (by decide)
      · obtain ⟨k0, hk0, ek0⟩ := rng (c := 7) (n := 7) rfl (by decide) q.1 q.2
        rw [nI_s]
        refine ih _ (f6_tr fN (f6_tr (f6_9 (by omega)) f6_si)) (fun k hk' x hx => ?_)
        have c0 : v.toNatClampNeg = k0 := by rw [ek0]; exact ncl (by omega)
        rw [c0, gxs, giR _ _ _ _ _ _ (show r + 590 ≠ r + 776 + 64 * i by omega), giR _ _ _ _ _ _ (show r + 590 ≠ r + 776 + 64 * i by omega)]
        obtain ⟨a, b⟩ := wN k hk' x hx
        by_cases e : k = k0
        · subst e
          rw [if_pos rfl]
          refine ⟨fun z => ?_, fun z y => ?_⟩
          · have a' := a (by omega)
            cases w : bt (gi N (r + 590) k ||| ((1 : Int32) <<< (nI i &&& 31))) x
            · rfl
            · rcases (bt_or1 _ (by omega) hx).mp w with w | w
              · exact (a'.symm.trans w).symm
              · omega
          · rw [bt_or1 _ (by omega) hx]
            by_cases e : x = i
            · subst e
              rw [← hv y]
              exact ⟨fun _ => ek0, fun _ => Or.inr rfl⟩
            · rw [b (by omega) y]
              exact ⟨fun z => z.elim id (fun z => absurd z e), Or.inl⟩
        · rw [if_neg e]
          refine ⟨fun z => a (by omega), fun z y => ?_⟩
          by_cases ex : x = i
          · subst ex
            rw [a (Nat.le_refl x), ← hv y, ek0, ninj (by omega) (by omega)]
            exact ⟨fun z => absurd z (by decide), fun z => absurd z.symm e⟩
          · exact b (by omega) y
    refine vLi_weighAll_10 hl.1 ⟨fun q => absurd q (ld_le lN hi), fun _ => eS_weightOf (g := g) (u := u) lN hi egN uN (fun y v => go v (fun z => absurd (y.symm.trans z) (by decide))) (fun y => ⟨hc i hi y, go _ (fun _ => rfl)⟩)⟩
  · have lN := ld_st (f6_st fN) l
    exact vLi_weighAll_10 hl.1 ⟨fun _ => h N fN wN, fun q => absurd (ld_se lN) q⟩
end ES3
