/-! ===== every sound word comes to speak; how many steps it is from its end ===== -/
def nbc (p : Nat → Bool) : Nat → Nat
  | 0 => 0
  | k + 1 => nbc p k + (if p k = true then 1 else 0)
theorem nbc_le (p : Nat → Bool) : ∀ k, nbc p k ≤ k
  | 0 => Nat.le_refl 0
  | k + 1 => by
    rw [nbc]
    have := nbc_le p k
    split <;> omega
theorem nbc_mono {p q : Nat → Bool} : ∀ k, (∀ i, i < k → p i = true → q i = true) → nbc p k ≤ nbc q k
  | 0, _ => Nat.le_refl 0
  | k + 1, h => by
    have := nbc_mono k (fun i hi => h i (by omega))
    rw [nbc, nbc]
    by_cases e : p k = true
    · rw [if_pos e, if_pos (h k (by omega) e)]; omega
    · rw [if_neg e]; omega
theorem nbc_lt {p q : Nat → Bool} {x : Nat} : ∀ k, (∀ i, i < k → p i = true → q i = true) → x < k → p x = false → q x = true → nbc p k < nbc q k
  | 0, _, hx, _, _ => absurd hx (Nat.not_lt_zero x)
  | k + 1, h, hx, h1, h2 => by
    rw [nbc, nbc]
    by_cases e : x = k
    · subst e
      have := nbc_mono (p := p) (q := q) x (fun i hi => h i (by omega))
      rw [h1, if_neg (by decide), if_pos h2]; omega
    · have := nbc_lt (p := p) (q := q) (x := x) k (fun i hi => h i (by omega)) (by omega) h1 h2
      by_cases e : p k = true
      · rw [if_pos e, if_pos (h k (by omega) e)]; omega
      · rw [if_neg e]; omega
theorem nbc_full {p : Nat → Bool} : ∀ k, k ≤ nbc p k → ∀ i, i < k → p i = true
  | 0, _, i, hi => absurd hi (Nat.not_lt_zero i)
  | k + 1, h, i, hi => by
    have l := nbc_le p k
    rw [nbc] at h
    by_cases e : p k = true
    · rw [if_pos e] at h
      by_cases z : i = k
      · rw [z]; exact e
      · exact nbc_full k (by omega) i (by omega)
    · rw [if_neg e] at h; omega
section ES1
variable {g : Nat → Nat → Int32} {u : Int32} {D : Nat}
theorem sp1_m {q : SQ} {w v : Nat} (hw : w < 32) (hv : v < 32) (h : bt q.1 v = true) : bt (sp1 g u q w).1 v = true := by
  unfold sp1
  by_cases c : bt q.1 w = false ∧ bt u w = false ∧ (fowg g w &&& (q.1 ^^^ (-1))) = 0
  · rw [if_pos c]
    exact (bt_or1 _ hw hv).mpr (Or.inl h)
  · rw [if_neg c]; exact h
theorem spr_m {q : SQ} {v : Nat} (hv : v < 32) (h : bt q.1 v = true) : ∀ w, w ≤ 32 → bt (spr g u q w).1 v = true
  | 0, _ => h
  | w + 1, hw => by rw [spr]; exact sp1_m (by omega) hv (spr_m hv h w (by omega))
theorem spr_m2 {q : SQ} {v : Nat} (hv : v < 32) {w : Nat} (h : bt (spr g u q w).1 v = true) : ∀ k, w + k ≤ 32 → bt (spr g u q (w + k)).1 v = true
  | 0, _ => h
  | k + 1, hk => by rw [← Nat.add_assoc, spr]; exact sp1_m (by omega) hv (spr_m2 hv h k (by omega))
/-- what a word follows is inside -/
theorem fow_lt (hD : D ≤ 24) {w v : Nat} (hw : w < D) (rs : RS6 g D w) (hv : v < 32) (h : bt (fowg g w) v = true) : v < D := by
  unfold fowg at h
  by_cases k4 : g w 0 = 4
  · rw [if_pos k4] at h
    have := ((fosg_b g w w (by omega) v hv).mp h).1
    omega
  · rw [if_neg k4] at h
    rcases rs.1 with ⟨-, e⟩ | ⟨-, f, hf, -, e⟩
    · rw [if_pos e, b_0] at h
      exact absurd h (by decide)
    · rw [e, if_neg (nI4 (by omega)), b_one f (by omega) v hv, decide_eq_true_eq] at h
      omega
/-- where words are left, one can speak -/
theorem sp_min {q : SQ} (hD : D ≤ 24) (hu : u = unsd g D) (rs : ∀ w, w < D → RS6 g D w) : ∀ k w, w < D → bt u w = false → bt q.1 w = false → nbc (fun v => bt (wlr (fowg g) D w) v && (!bt u v && !bt q.1 v)) D ≤ k → ∃ w, w < D ∧ bt u w = false ∧ bt q.1 w = false ∧ (fowg g w &&& (q.1 ^^^ (-1))) = 0 := by
  intro k
  induction k with
  | zero =>
    intro w hw h1 h2 h3
    refine ⟨w, hw, h1, h2, an0.mpr (fun v hv e => ?_)⟩
    by_cases z : bt q.1 v = true
    · exact z
    · exfalso
      have zf : bt q.1 v = false := by simpa using z
      have lv := fow_lt hD hw (rs w hw) hv e
      have su : bt u v = false := by
        rw [hu] at h1 ⊢
        exact us_of hD hw h1 hv e
      have c1 : bt (wlr (fowg g) D w) v = true := wlr_0 _ D (by omega) w v e
      have := nbc_lt (p := fun _ => false) (q := fun v => bt (wlr (fowg g) D w) v && (!bt u v && !bt q.1 v)) (x := v) D (fun i _ y => absurd y (by decide)) lv rfl (by rw [c1, su, zf]; rfl)
      omega
  | succ k ih =>
    intro w hw h1 h2 h3
    by_cases c : (fowg g w &&& (q.1 ^^^ (-1))) = 0
    · exact ⟨w, hw, h1, h2, c⟩
    · obtain ⟨v, hv, e⟩ := nz_b.mp c
      rw [b_and, Bool.and_eq_true, b_not _ hv] at e
      have zf : bt q.1 v = false := by
        have := e.2
        cases z : bt q.1 v
        · rfl
        · rw [z] at this; exact absurd this (by decide)
      have lv := fow_lt hD hw (rs w hw) hv e.1
      have su : bt u v = false := by
        rw [hu] at h1 ⊢
        exact us_of hD hw h1 hv e.1
      have c1 : bt (wlr (fowg g) D w) v = true := wlr_0 _ D (by omega) w v e.1
      have nr : bt (wlr (fowg g) D v) v = false := by
        cases z : bt (wlr (fowg g) D v) v
        · rfl
        · exfalso
          have r1 : bt (ring g D) v = true := (rg_b _ D (by omega) v hv).mpr ⟨lv, z⟩
          have : bt (unsd g D) v = true := (ug_b _ _ D (by omega) v hv).mpr (Or.inl r1)
          rw [hu, this] at su
          exact absurd su (by decide)
      refine ih v lv su zf ?_
      have := nbc_lt (p := fun x => bt (wlr (fowg g) D v) x && (!bt u x && !bt q.1 x)) (q := fun x => bt (wlr (fowg g) D w) x && (!bt u x && !bt q.1 x)) (x := v) D (fun i hi y => ?_) lv (by show (bt (wlr (fowg g) D v) v && _) = false; rw [nr, Bool.false_and]) (by show (bt (wlr (fowg g) D w) v && _) = true; rw [c1, su, zf]; rfl)
      · omega
      · have y' : (bt (wlr (fowg g) D v) i && (!bt u i && !bt q.1 i)) = true := y
        show (bt (wlr (fowg g) D w) i && (!bt u i && !bt q.1 i)) = true
        rw [Bool.and_eq_true] at y' ⊢
        exact ⟨wlr_t _ D (by omega) v lv w c1 i y'.1, y'.2⟩
theorem sp_more {q : SQ} (hD : D ≤ 24) (hu : u = unsd g D) (rs : ∀ w, w < D → RS6 g D w) {w : Nat} (hw : w < D) (h1 : bt u w = false) (h2 : bt q.1 w = false) : nbc (bt q.1) D < nbc (bt (spr g u q D).1) D := by
  obtain ⟨x, hx, x1, x2, x3⟩ := sp_min (q := q) hD hu rs _ w hw h1 h2 (Nat.le_refl _)
  refine nbc_lt (x := x) D (fun i hi y => spr_m (by omega) y D (by omega)) hx x2 ?_
  have key : bt (spr g u q (x + 1)).1 x = true := by
    rw [spr]
    by_cases y : bt (spr g u q x).1 x = true
    · exact sp1_m (by omega) (by omega) y
    · have yf : bt (spr g u q x).1 x = false := by simpa using y
      have c : bt (spr g u q x).1 x = false ∧ bt u x = false ∧ (fowg g x &&& ((spr g u q x).1 ^^^ (-1))) = 0 := ⟨yf, x1, an0.mpr (fun v hv e => spr_m hv (an0.mp x3 v hv e) x (by omega))⟩
      unfold sp1
      rw [if_pos c]
      exact (bt_or1 _ (by omega) (by omega)).mpr (Or.inr rfl)
  have := spr_m2 (g := g) (u := u) (q := q) (v := x) (by omega) key (D - (x + 1)) (by omega)
  rwa [show x + 1 + (D - (x + 1)) = D by omega] at this
theorem spR_all (hD : D ≤ 24) (hu : u = unsd g D) (rs : ∀ w, w < D → RS6 g D w) : ∀ n, (∀ w, w < D → bt u w = false → bt (spR g u sq0 D n).1 w = true) ∨ n ≤ nbc (bt (spR g u sq0 D n).1) D
  | 0 => Or.inr (Nat.zero_le _)
  | n + 1 => by
    rcases spR_all hD hu rs n with h | h
    · left
      intro w hw e
      rw [spR]
      exact spr_m (by omega) (h w hw e) D (by omega)
    · by_cases c : ∀ w, w < D → bt u w = false → bt (spR g u sq0 D n).1 w = true
      · left
        intro w hw e
        rw [spR]
        exact spr_m (by omega) (c w hw e) D (by omega)
      · right
        have : ∃ w, w < D ∧ bt u w = false ∧ bt (spR g u sq0 D n).1 w = false := by
          by_cases z : ∃ w, w < D ∧ bt u w = false ∧ bt (spR g u sq0 D n).1 w = false
          · exact z
          · exfalso
            refine c (fun w hw e => ?_)
            cases y : bt (spR g u sq0 D n).1 w
            · exact absurd ⟨w, hw, e, y⟩ z
            · rfl
        obtain ⟨w, hw, e1, e2⟩ := this
        have := sp_more (q := spR g u sq0 D n) hD hu rs hw e1 e2
        rw [spR]; omega
/-- every sound word has spoken -/
theorem said_all (hD : D ≤ 24) (rs : ∀ w, w < D → RS6 g D w) {w : Nat} (hw : w < D) (h : bt (unsd g D) w = false) : bt (said g D).1 w = true := by
  rcases spR_all (g := g) hD rfl rs D with a | a
  · exact a w hw h
  · exact nbc_full D a w hw
/-- who has spoken comes to an end, in fewer steps than have spoken -/
def CE (g : Nat → Nat → Int32) (D : Nat) (q : SQ) : Prop := ∀ w, w < D → bt q.1 w = true → ∃ n, chs g n w ∧ n < nbc (bt q.1) D
theorem ce_sp1 (hD : D ≤ 24) {q : SQ} {w : Nat} (hw : w < D) (rs : RS6 g D w) (h : CE g D q) : CE g D (sp1 g u q w) := by
  unfold sp1
  by_cases c : bt q.1 w = false ∧ bt u w = false ∧ (fowg g w &&& (q.1 ^^^ (-1))) = 0
  · rw [if_pos c]
    have more : nbc (bt q.1) D < nbc (bt (q.1 ||| ((1 : Int32) <<< (nI w &&& 31)))) D := nbc_lt (x := w) D (fun i hi y => (bt_or1 _ (by omega) (by omega)).mpr (Or.inl y)) hw c.1 ((bt_or1 _ (by omega) (by omega)).mpr (Or.inr rfl))
    intro v hv e
    have e' : bt (q.1 ||| ((1 : Int32) <<< (nI w &&& 31))) v = true := e
    show ∃ n, chs g n v ∧ n < nbc (bt (q.1 ||| ((1 : Int32) <<< (nI w &&& 31)))) D
    rcases (bt_or1 _ (by omega) (by omega)).mp e' with e' | rfl
    · obtain ⟨n, a, b⟩ := h v hv e'
      exact ⟨n, a, by omega⟩
    · rcases rs.1 with ⟨-, e6⟩ | ⟨nk, f, hf, -, e6⟩
      · exact ⟨0, e6, by omega⟩
      · have fo : bt (fowg g v) f = true := by
          unfold fowg
          rw [if_neg (fun z => nk (Or.inr (Or.inl z))), e6, if_neg (nI4 (by omega)), b_one f (by omega) f (by omega), decide_eq_true_eq]
        obtain ⟨n, a, b⟩ := h f hf (an0.mp c.2.2 f (by omega) fo)
        exact ⟨n + 1, ⟨f, by omega, e6, a⟩, by omega⟩
  · rw [if_neg c]; exact h
theorem ce_spr (hD : D ≤ 24) (rs : ∀ w, w < D → RS6 g D w) {q : SQ} (h : CE g D q) : ∀ w, w ≤ D → CE g D (spr g u q w)
  | 0, _ => h
  | w + 1, hw => by rw [spr]; exact ce_sp1 hD (by omega) (rs w (by omega)) (ce_spr hD rs h w (by omega))
theorem ce_spR (hD : D ≤ 24) (rs : ∀ w, w < D → RS6 g D w) : ∀ n, CE g D (spR g u sq0 D n)
  | 0 => fun w _ e => by
    have : bt 0 w = true := e
    rw [b_0] at this
    exact absurd this (by decide)
  | n + 1 => by rw [spR]; exact ce_spr hD rs (ce_spR hD rs n) D (Nat.le_refl D)
/-- a sound word comes to its end in fewer steps than there are words -/
theorem chs_ex (hD : D ≤ 24) (rs : ∀ w, w < D → RS6 g D w) {w : Nat} (hw : w < D) (h : bt (unsd g D) w = false) : ∃ n, n < D ∧ chs g n w := by
  obtain ⟨n, a, b⟩ := ce_spR (g := g) (u := unsd g D) hD rs D w hw (said_all hD rs hw h)
  exact ⟨n, Nat.lt_of_lt_of_le b (nbc_le _ D), a⟩
end ES1
