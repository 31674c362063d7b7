/-! ===== what holds of both between calls ===== -/
def CP (M : Mm) (L P R S U D : Nat) : Prop := CX M L P R S U ∧ gi M L 1 = nI D ∧ D ≤ 24 ∧ RN M 4995 ∧ RN M 5059 ∧ RN M 5123
def MP (M : Mm) (W : Nat) : Prop := JW M W ∧ W ≤ 24 ∧ HD M ∧ HO M ∧ UM M W
def JA (M : Mm) (t : Nat) : Prop := gi M 70 1 = nI t ∧ t ≤ 400 ∧ gi M 6027 11 = nI t ∧ ∀ k, k < 400 → BY (gi M 145 k) (gi M 6486 k)
def JS (M : Mm) : Prop := ∀ e, e < 4 → (∃ n, n ≤ 40 ∧ gi M (sa e) 2 = nI n ∧ gi M 7708 e = nI n) ∧ gi M (sa e) 1 = gi M 7644 e ∧ ∀ i, i < 40 → gi M (5588 + 128 * e) i = gi M 7773 (40 * e + i)
def IV (M : Mm) (L P R S U D W t : Nat) : Prop := CP M L P R S U D ∧ MP M W ∧ JA M t ∧ JS M
section IV1
variable {M N : Mm} {L P R S U D W t : Nat}
/-- the class's part stays when its rows do -/
theorem cp_eq (c : CP M L P R S U D) (h1 : ∀ a j, ¬ (a = 5192 ∧ j < 2) → a ≠ 6027 → gr N a j = gr M a j) (h2 : ∀ a, a = 385 ∨ a = 2689 ∨ a = 4995 ∨ a = 5059 ∨ a = 5123 → gi N a = gi M a) : CP N L P R S U D := by
  obtain ⟨c1, c2, c3, c4, c5, c6⟩ := c
  obtain ⟨x1, ⟨x2, x3, x4, x5, x6⟩, x7, ⟨x8, x9⟩, x10⟩ := c1
  have n5 : ∀ q ∈ cgt, ¬ (q.1 = 5192 ∧ q.2.1 < 2) ∧ q.1 ≠ 6027 := by decide
  have lr : ∀ {L}, LA L → LR M L → LR N L := fun {L} hL h => by
    refine ⟨h.1, fun q hq => ?_, fun w hw => ?_⟩
    · rw [h1 L q.1 (fun e => by unfold LA at hL; omega) (by unfold LA at hL; omega)]; exact h.2.1 q hq
    · rw [h1 (L + 81) w (fun e => by unfold LA at hL; omega) (by unfold LA at hL; omega)]; exact h.2.2 w hw
  refine ⟨⟨fun q hq => (h1 _ _ (n5 q hq).1 (n5 q hq).2).trans (x1 q hq), ⟨?_, ?_, ?_, ?_, ?_⟩, x7, ⟨lr x7.1 x8, lr x7.2.1 x9⟩, x10⟩, ?_, c3, ?_, ?_, ?_⟩
  · rw [h1 _ _ (by decide) (by decide)]; exact x2
  · rw [h1 _ _ (by decide) (by decide)]; exact x3
  · rw [h1 _ _ (by decide) (by decide)]; exact x4
  · rw [h1 _ _ (by decide) (by decide)]; exact x5
  · rw [h1 _ _ (by decide) (by decide)]; exact x6
  · rw [h2 L (by have := x7.1; unfold LA at this; omega)]; exact c2
  · unfold RN; rw [h2 _ (by decide)]; exact c4
  · unfold RN; rw [h2 _ (by decide)]; exact c5
  · unfold RN; rw [h2 _ (by decide)]; exact c6
theorem chn_eq (h : gi N 6101 = gi M 6101) (B : Nat) : ∀ n v, chn M B n v → chn N B n v
  | 0, v, q => by
    have e : wd N v 6 = wd M v 6 := by unfold wd; rw [h]
    show wd N v 6 = -4
    rw [e]; exact q
  | n + 1, v, q => by
    have e : wd N v 6 = wd M v 6 := by unfold wd; rw [h]
    show wd N v 6 = -4 ∨ _
    rw [e]
    exact q.imp id (fun ⟨f, a, b, c⟩ => ⟨f, a, b, chn_eq h B n f c⟩)
theorem jw_eq (j : JW M W) (h0 : ∀ k, gr N 6027 k = gr M 6027 k) (h1 : gi N 6101 = gi M 6101) (h2 : gi N 6027 0 = gi M 6027 0) (h3 : gi N 6027 24 = gi M 6027 24) : JW N W := by
  obtain ⟨j1, j2, j3, j4⟩ := j
  refine ⟨fun q hq => (h0 _).trans (j1 q hq), h2.trans j2, j3, fun w hw => ?_⟩
  obtain ⟨⟨b, hb, eb⟩, c⟩ := j4 w hw
  refine ⟨⟨b, hb, ?_⟩, fun u => chn_eq h1 W 25 w (c (fun z => u ?_))⟩
  · unfold wd; rw [h1]; exact eb
  · unfold uns; rw [h3]; exact z
theorem mp_eq (m : MP M W) (h0 : ∀ k, gr N 6027 k = gr M 6027 k) (h1 : gi N 6101 = gi M 6101) (h2 : gi N 6027 0 = gi M 6027 0) (h3 : gi N 6027 24 = gi M 6027 24) (h4 : gi N 6543 4 = gi M 6543 4) (h5 : gi N 6607 4 = gi M 6607 4) : MP N W := by
  obtain ⟨m1, m2, m3, m4, m5⟩ := m
  refine ⟨jw_eq m1 h0 h1 h2 h3, m2, ?_, ?_, ?_⟩
  · unfold HD; rw [h4]; exact m3
  · unfold HO; rw [h5]; exact m4
  · unfold UM; rw [h3]; exact m5
theorem ja_eq (j : JA M t) (h1 : gi N 70 = gi M 70) (h2 : gi N 145 = gi M 145) (h3 : gi N 6027 11 = gi M 6027 11) (h4 : gi N 6486 = gi M 6486) : JA N t := by
  unfold JA; rw [h1, h2, h3, h4]; exact j
theorem js_eq (j : JS M) (h1 : ∀ e, e < 4 → gi N (sa e) = gi M (sa e)) (h2 : ∀ e, e < 4 → gi N (5588 + 128 * e) = gi M (5588 + 128 * e)) (h3 : gi N 7708 = gi M 7708) (h4 : gi N 7644 = gi M 7644) (h5 : gi N 7773 = gi M 7773) : JS N := by
  intro e he
  rw [h1 e he, h2 e he, h3, h4, h5]; exact j e he
/-- a query of the class -/
theorem iv_cq (f : CQ M N) (i : IV M L P R S U D W t) : IV N L P R S U D W t := by
  obtain ⟨i1, i2, i3, i4⟩ := i
  have g : ∀ a, ¬ (a = 5192 ∨ a = 5261 ∨ a = 5392) → gi N a = gi M a := f.2.2
  refine ⟨cp_eq i1 (fun a j n _ => f.2.1 a j n) (fun a ha => g a (by omega)), mp_eq i2 (fun k => f.2.1 _ _ (by omega)) (g _ (by decide)) (by rw [g _ (by decide)]) (by rw [g _ (by decide)]) (by rw [g _ (by decide)]) (by rw [g _ (by decide)]), ja_eq i3 (g _ (by decide)) (g _ (by decide)) (by rw [g _ (by decide)]) (g _ (by decide)), js_eq i4 (fun e he => g _ (by unfold sa; omega)) (fun e he => g _ (by omega)) (g _ (by decide)) (g _ (by decide)) (g _ (by decide))⟩
/-- a query of the reference -/
theorem iv_qf (f : QF W M N) (i : IV M L P R S U D W t) : IV N L P R S U D W t := by
  obtain ⟨i1, i2, i3, i4⟩ := i
  have g : ∀ a, ¬ (a = 7310 ∨ a = 7374 ∨ a = 7246 ∨ a = 7182 ∨ a = 7438 ∨ a = 7502 ∨ a = 7582 ∨ a = 6101 ∨ a = 6027) → gi N a = gi M a := f.2.1
  refine ⟨cp_eq i1 (fun a j _ _ => by rw [f.1]) (fun a ha => g a (by omega)), ⟨jw_sm (qf_sm f) i2.1, i2.2.1, ?_, ?_, um_qf f i2.2.2.2.2⟩, ja_eq i3 (g _ (by decide)) (g _ (by decide)) (f.2.2.2.1 11 (by decide)) (g _ (by decide)), js_eq i4 (fun e he => g _ (by unfold sa; omega)) (fun e he => g _ (by omega)) (g _ (by decide)) (g _ (by decide)) (g _ (by decide))⟩
  · unfold HD; rw [g _ (by decide)]; exact i2.2.2.1
  · unfold HO; rw [g _ (by decide)]; exact i2.2.2.2.1
theorem iv_af (f : AF M N) (i : IV M L P R S U D W t) : IV N L P R S U D W t := iv_qf (qf_af f) i
theorem tc_of (c : CX M L P R S U) (j : JA M t) : TC M (gi M 6486) t := ⟨cxg c (199, 0, 70) (by decide), cxg c (70, 0, 145) (by decide), j.1, j.2.1, j.2.2.2⟩
theorem js_n (j : JS M) : ∀ e, e < 4 → ∃ n, n ≤ 40 ∧ gi M (sa e) 2 = nI n := fun e he => by
  obtain ⟨⟨n, a, b, -⟩, -⟩ := j e he
  exact ⟨n, a, b⟩
theorem js_m (j : JS M) : ∀ e, e < 4 → ∃ n, n ≤ 40 ∧ gi M 7708 e = nI n := fun e he => by
  obtain ⟨⟨n, a, -, b⟩, -⟩ := j e he
  exact ⟨n, a, b⟩
end IV1