/-! ===== a word is told the same ===== -/
def cf (i : Nat) : Nat := if i = 7 then 8 else i
section EQ6
variable {M : Mm} {T : Nat → Int32} {t : Nat}
theorem isn_p {lo hi : Int32} {s : Rst} : (isn lo hi s).2.1 = s.2.1 := by unfold isn; rw [wts_p, wts_p]
theorem ddc_p {s : Rst} : (ddc T t s).2.1 = s.2.1 := by unfold ddc nam; rw [wts_p, wts_p]
theorem mkc_p {no : Int32} {s : Rst} : (mkc T t no s).2.1 = s.2.1 := by unfold mkc mk1; rw [wts_p, wts_p, wts_p]
theorem tk4_0 (a : Tst) : tk4 T t 0 a = tkM T t a := by unfold tk4; rw [Int32.zero_and, if_pos rfl]
theorem rl_word {c : Tst} {r : Rst} {k : Int32} (tc : TC M T t) (hr : r.2.1 ≤ 400) (hk : k = 0 ∨ k = 1 ∨ k = 2 ∨ k = 3 ∨ k = 4 ∨ k = 5) (z : RL (adv T t c) r) : NXT T t (tw2 T t k c) (rw6 T t k r) ∧ ((tw2 T t k c).2.2.2.2.1 = 0 → ∀ b, (∀ i, i < 8 → wb2 T t k c b (cf i) = rwr T t k r b i) ∧ (kCN k → wb2 T t k c b 7 = nI (rw5 T t k r).1)) := by
  have ht := tc.2.2.2.1
  have s1 : NXT T t (tw1 T t k c) (rw2 T t k r) ∧ (rw2 T t k r).2.1 ≤ 400 ∧ ((tw1 T t k c).2.2.2.2.1 = 0 → (k = 5 → tkNv 999 (adv T t c) = r.2.2.2.1) ∧ (¬ k = 5 → tkOv T t (adv T t c) = rdv T t r)) := by
    by_cases q : k = 5
    · have e1 : tw1 T t k c = tkN 999 (adv T t c) := by unfold tw1; rw [if_pos q]
      have e2 : rw2 T t k r = nxs T t (isn 0 999 r) := by unfold rw2 rw1; rw [if_pos q, if_pos q]
      obtain ⟨h1, h2⟩ := rl_num (g := 999) (by decide) z
      rw [e1, e2]
      exact ⟨⟨_, h1, rfl⟩, nxs_400 ht (by rw [isn_p]; exact hr), fun f => ⟨fun _ => (h2 f).1, fun n => absurd q n⟩⟩
    · have e1 : tw1 T t k c = tkO T t (adv T t c) := by unfold tw1; rw [if_neg q]
      have e2 : rw2 T t k r = nxs T t (ddc T t r) := by unfold rw2 rw1; rw [if_neg q, if_neg q, rds_d]
      obtain ⟨h1, h2⟩ := rl_doc (T := T) (t := t) hr z
      rw [e1, e2]
      exact ⟨⟨_, h1, rfl⟩, nxs_400 ht (by rw [ddc_p]; exact hr), fun f => ⟨fun n => absurd n q, fun _ => (h2 f).1⟩⟩
  obtain ⟨n2, h2r, v1⟩ := s1
  by_cases f1 : (tw1 T t k c).2.2.2.2.1 = 0
  · obtain ⟨vd, vo⟩ := v1 f1
    have e2 : tw2 T t k c = syE T t k (tw1 T t k c) := by unfold tw2; rw [if_pos f1]
    have a2 := nxt_adv tc n2 f1
    rw [e2]
    -- what a row begins with
    have w0 : ∀ b, wb1 T t k c b 0 = k := by
      intro b; unfold wb1
      by_cases q : k = 5
      · rw [if_pos q, if_neg (by decide)]; rfl
      · rw [if_neg q, if_neg (by decide)]; rfl
    have w1 : ∀ b, wb1 T t k c b 1 = ra2 T t k r := by
      intro b; unfold wb1 ra2
      by_cases q : k = 5
      · rw [if_pos q, if_neg (by decide), if_pos q]; rfl
      · rw [if_neg q, if_pos rfl, if_neg q, vo q]
        unfold rw1; rw [if_neg q]
    have w8 : ∀ b, wb1 T t k c b 8 = ra1 k r := by
      intro b; unfold wb1 ra1
      by_cases q : k = 5
      · rw [if_pos q, if_pos rfl, if_pos q, vd q]
      · rw [if_neg q, if_neg (by decide), if_neg q]; rfl
    have wi : ∀ b i, i = 2 ∨ i = 3 ∨ i = 4 ∨ i = 5 ∨ i = 6 → wb1 T t k c b i = wb0 k b i := by
      intro b i hi; unfold wb1
      by_cases q : k = 5
      · rw [if_pos q, if_neg (by omega)]
      · rw [if_neg q, if_neg (by omega)]
    unfold wb2
    generalize tw1 T t k c = u at f1 a2 e2 n2 ⊢
    by_cases c13 : k13 k
    · have cn : kCN k := by rcases c13 with rfl | rfl | rfl <;> decide
      have nwll : ¬ kWLL k := by rcases c13 with rfl | rfl | rfl <;> decide
      have nwl : ¬ kWL k := by rcases c13 with rfl | rfl | rfl <;> decide
      have es : syE T t k u = tkN 23 (adv T t u) := by unfold syE; rw [if_pos c13]
      have r3 : rw3 T t k r = rw2 T t k r := by unfold rw3; rw [if_neg nwll]
      have r4 : rw4 T t k r = rw2 T t k r := by unfold rw4; rw [if_neg nwl, r3]
      have r5 : rw5 T t k r = rw2 T t k r := by unfold rw5; rw [if_neg nwl, r4]
      have r6 : rw6 T t k r = nxs T t (isn 0 23 (rw2 T t k r)) := by unfold rw6; rw [if_pos cn, r5]
      obtain ⟨h1, h2⟩ := rl_num (g := 23) (by decide) a2
      have es' : syE T t k u = tkN (nI 23) (adv T t u) := es
      refine ⟨?_, fun f b => ⟨fun i hi => ?_, fun _ => ?_⟩⟩
      · rw [es', r6]; exact ⟨_, h1, rfl⟩
      · rw [es'] at f
        obtain ⟨hv, -, -, -⟩ := h2 f
        have hv' : tkNv 23 (adv T t u) = (rw2 T t k r).2.2.2.1 := hv
        unfold syr rwr
        match i, hi with
        | 0, _ => show (if k13 k then (if (0 : Nat) = 7 then _ else if (0 : Nat) = 6 then _ else wb1 T t k c b 0) else _) = _; rw [if_pos c13, if_neg (by decide), if_neg (by decide), w0]; rfl
        | 1, _ => show (if k13 k then (if (1 : Nat) = 7 then _ else if (1 : Nat) = 6 then _ else wb1 T t k c b 1) else _) = _; rw [if_pos c13, if_neg (by decide), if_neg (by decide), w1]; rfl
        | 2, _ => show (if k13 k then (if (2 : Nat) = 7 then _ else if (2 : Nat) = 6 then _ else wb1 T t k c b 2) else _) = _; rw [if_pos c13, if_neg (by decide), if_neg (by decide), wi b 2 (by decide)]; rfl
        | 3, _ => show (if k13 k then (if (3 : Nat) = 7 then _ else if (3 : Nat) = 6 then _ else wb1 T t k c b 3) else _) = ra3 T t k r; rw [if_pos c13, if_neg (by decide), if_neg (by decide), wi b 3 (by decide)]; unfold ra3; rw [if_neg nwll]; rfl
        | 4, _ => show (if k13 k then (if (4 : Nat) = 7 then _ else if (4 : Nat) = 6 then _ else wb1 T t k c b 4) else _) = ra4 T t k r; rw [if_pos c13, if_neg (by decide), if_neg (by decide), wi b 4 (by decide)]; unfold ra4; rw [if_neg nwl]; rfl
        | 5, _ => show (if k13 k then (if (5 : Nat) = 7 then _ else if (5 : Nat) = 6 then _ else wb1 T t k c b 5) else _) = ra5 T t k r; rw [if_pos c13, if_neg (by decide), if_neg (by decide), wi b 5 (by decide)]; unfold ra5; rw [if_neg nwl]; rfl
        | 6, _ => show (if k13 k then (if (6 : Nat) = 7 then _ else if (6 : Nat) = 6 then tkNv 23 (adv T t u) else wb1 T t k c b 6) else _) = ra6 T t k r; rw [if_pos c13, if_neg (by decide), if_pos rfl, hv']; unfold ra6; rw [if_pos cn, r5]
        | 7, _ => show (if k13 k then (if (8 : Nat) = 7 then _ else if (8 : Nat) = 6 then _ else wb1 T t k c b 8) else _) = ra1 k r; rw [if_pos c13, if_neg (by decide), if_neg (by decide), w8]
      · rw [es'] at f
        obtain ⟨-, he, -, hf⟩ := h2 f
        unfold syr
        rw [if_pos c13, if_pos rfl, es', he, r5, (a2.2.2 hf).1]
    · by_cases c4 : k = 4
      · have ncn : ¬ kCN k := by rw [c4]; decide
        have wll : kWLL k := Or.inr (Or.inr c4)
        have nwl : ¬ kWL k := by rw [c4]; decide
        have es : syE T t k u = tk4 T t 0 (adv T t u) := by unfold syE sy1; rw [if_neg c13, if_pos c4, tk4_0]
        have r3 : rw3 T t k r = nxs T t (mkc T t 0 (rw2 T t k r)) := by unfold rw3; rw [if_pos wll, mks_d]
        have r4 : rw4 T t k r = rw3 T t k r := by unfold rw4; rw [if_neg nwl]
        have r5 : rw5 T t k r = rw3 T t k r := by unfold rw5; rw [if_neg nwl, r4]
        have r6 : rw6 T t k r = rw3 T t k r := by unfold rw6; rw [if_neg ncn, r5]
        obtain ⟨h1, h2⟩ := rl_marks (T := T) (t := t) (no := 0) a2
        refine ⟨?_, fun f b => ⟨fun i hi => ?_, fun n => absurd n ncn⟩⟩
        · rw [es, r6, r3]; exact ⟨_, h1, rfl⟩
        · rw [es] at f
          obtain ⟨hv, -, -, -⟩ := h2 f
          unfold syr rwr
          match i, hi with
          | 0, _ => show (if k13 k then _ else if k = 4 then (if (0 : Nat) = 3 then _ else wb1 T t k c b 0) else _) = _; rw [if_neg c13, if_pos c4, if_neg (by decide), w0]; rfl
          | 1, _ => show (if k13 k then _ else if k = 4 then (if (1 : Nat) = 3 then _ else wb1 T t k c b 1) else _) = _; rw [if_neg c13, if_pos c4, if_neg (by decide), w1]; rfl
          | 2, _ => show (if k13 k then _ else if k = 4 then (if (2 : Nat) = 3 then _ else wb1 T t k c b 2) else _) = _; rw [if_neg c13, if_pos c4, if_neg (by decide), wi b 2 (by decide)]; rfl
          | 3, _ => show (if k13 k then _ else if k = 4 then (if (3 : Nat) = 3 then tkMv T t (adv T t u) else wb1 T t k c b 3) else _) = ra3 T t k r; rw [if_neg c13, if_pos c4, if_pos rfl, hv]; unfold ra3; rw [if_pos wll]
          | 4, _ => show (if k13 k then _ else if k = 4 then (if (4 : Nat) = 3 then _ else wb1 T t k c b 4) else _) = ra4 T t k r; rw [if_neg c13, if_pos c4, if_neg (by decide), wi b 4 (by decide)]; unfold ra4; rw [if_neg nwl]; rfl
          | 5, _ => show (if k13 k then _ else if k = 4 then (if (5 : Nat) = 3 then _ else wb1 T t k c b 5) else _) = ra5 T t k r; rw [if_neg c13, if_pos c4, if_neg (by decide), wi b 5 (by decide)]; unfold ra5; rw [if_neg nwl]; rfl
          | 6, _ => show (if k13 k then _ else if k = 4 then (if (6 : Nat) = 3 then _ else wb1 T t k c b 6) else _) = ra6 T t k r; rw [if_neg c13, if_pos c4, if_neg (by decide), wi b 6 (by decide)]; unfold ra6; rw [if_neg ncn]; rfl
          | 7, _ => show (if k13 k then _ else if k = 4 then (if (8 : Nat) = 3 then _ else wb1 T t k c b 8) else _) = ra1 k r; rw [if_neg c13, if_pos c4, if_neg (by decide), w8]
      · have wl : kWL k := by
          rcases hk with q | q | q | q | q | q
          · exact Or.inl q
          · exact absurd (Or.inl q) c13
          · exact absurd (Or.inr (Or.inl q)) c13
          · exact absurd (Or.inr (Or.inr q)) c13
          · exact absurd q c4
          · exact Or.inr q
        have wll : kWLL k := wl.imp id Or.inl
        have ncn : ¬ kCN k := by rcases wl with rfl | rfl <;> decide
        have r3 : rw3 T t k r = nxs T t (mkc T t 0 (rw2 T t k r)) := by unfold rw3; rw [if_pos wll, mks_d]
        have r4 : rw4 T t k r = nxs T t (mkc T t (ra3 T t k r) (rw3 T t k r)) := by unfold rw4; rw [if_pos wl, mks_d]
        have r5 : rw5 T t k r = nxs T t (anc T t (rw4 T t k r)) := by unfold rw5; rw [if_pos wl, ras_d]
        have r6 : rw6 T t k r = rw5 T t k r := by unfold rw6; rw [if_neg ncn]
        have e3 : ra3 T t k r = mkv T t (rw2 T t k r) := by unfold ra3; rw [if_pos wll]
        obtain ⟨h1, h2⟩ := rl_marks (T := T) (t := t) (no := 0) a2
        rw [tk4_0] at h1 h2
        have h1' : RL (sy1 T t u) (mkc T t 0 (rw2 T t k r)) := h1
        have n3 : NXT T t (sy1 T t u) (rw3 T t k r) := by rw [r3]; exact ⟨_, h1', rfl⟩
        have p3 : (rw3 T t k r).2.1 ≤ 400 := by rw [r3]; exact nxs_400 ht (by rw [mkc_p]; exact h2r)
        by_cases fs1 : (sy1 T t u).2.2.2.2.1 = 0
        · have es : syE T t k u = sy4 T t u := by unfold syE; rw [if_neg c13, if_neg c4, if_pos fs1]
          obtain ⟨hv1, hs1, -, -⟩ := h2 fs1
          have a3 := nxt_adv tc n3 fs1
          obtain ⟨g1, g2⟩ := rl_marks (T := T) (t := t) (no := ra3 T t k r) a3
          have e4 : tk4 T t (ra3 T t k r) (adv T t (sy1 T t u)) = sy3 T t u := by
            unfold tk4 sy3 sy2
            rw [e3, ← hv1]
          rw [e4] at g1 g2
          have n4 : NXT T t (sy3 T t u) (rw4 T t k r) := by rw [r4]; exact ⟨_, g1, rfl⟩
          have p4 : (rw4 T t k r).2.1 ≤ 400 := by rw [r4]; exact nxs_400 ht (by rw [mkc_p]; exact p3)
          by_cases fs3 : (sy3 T t u).2.2.2.2.1 = 0
          · have es4 : sy4 T t u = tkA T t (adv T t (sy3 T t u)) := by unfold sy4; rw [if_pos fs3]
            obtain ⟨hv2, -, -, -⟩ := g2 fs3
            have a4 := nxt_adv tc n4 fs3
            obtain ⟨i1, i2⟩ := rl_ans (T := T) (t := t) p4 a4
            refine ⟨?_, fun f b => ⟨fun i hi => ?_, fun n => absurd n ncn⟩⟩
            · rw [es, es4, r6, r5]; exact ⟨_, i1, rfl⟩
            · rw [es, es4] at f
              obtain ⟨hv3, -, -, -⟩ := i2 f
              unfold syr rwr
              match i, hi with
              | 0, _ => show (if k13 k then _ else if k = 4 then _ else (if (0 : Nat) = 5 then _ else if (0 : Nat) = 4 then _ else if (0 : Nat) = 3 then _ else wb1 T t k c b 0)) = _; rw [if_neg c13, if_neg c4, if_neg (by decide), if_neg (by decide), if_neg (by decide), w0]; rfl
              | 1, _ => show (if k13 k then _ else if k = 4 then _ else (if (1 : Nat) = 5 then _ else if (1 : Nat) = 4 then _ else if (1 : Nat) = 3 then _ else wb1 T t k c b 1)) = _; rw [if_neg c13, if_neg c4, if_neg (by decide), if_neg (by decide), if_neg (by decide), w1]; rfl
              | 2, _ => show (if k13 k then _ else if k = 4 then _ else (if (2 : Nat) = 5 then _ else if (2 : Nat) = 4 then _ else if (2 : Nat) = 3 then _ else wb1 T t k c b 2)) = _; rw [if_neg c13, if_neg c4, if_neg (by decide), if_neg (by decide), if_neg (by decide), wi b 2 (by decide)]; rfl
              | 3, _ => show (if k13 k then _ else if k = 4 then _ else (if (3 : Nat) = 5 then _ else if (3 : Nat) = 4 then _ else if (3 : Nat) = 3 then tkMv T t (adv T t u) else wb1 T t k c b 3)) = ra3 T t k r; rw [if_neg c13, if_neg c4, if_neg (by decide), if_neg (by decide), if_pos rfl, hv1, e3]
              | 4, _ => show (if k13 k then _ else if k = 4 then _ else (if (4 : Nat) = 5 then _ else if (4 : Nat) = 4 then tkMv T t (adv T t (sy1 T t u)) else _)) = ra4 T t k r; rw [if_neg c13, if_neg c4, if_neg (by decide), if_pos rfl, hv2]; unfold ra4; rw [if_pos wl]
              | 5, _ => show (if k13 k then _ else if k = 4 then _ else (if (5 : Nat) = 5 then tkAv T t (adv T t (sy3 T t u)) else _)) = ra5 T t k r; rw [if_neg c13, if_neg c4, if_pos rfl, hv3]; unfold ra5; rw [if_pos wl]
              | 6, _ => show (if k13 k then _ else if k = 4 then _ else (if (6 : Nat) = 5 then _ else if (6 : Nat) = 4 then _ else if (6 : Nat) = 3 then _ else wb1 T t k c b 6)) = ra6 T t k r; rw [if_neg c13, if_neg c4, if_neg (by decide), if_neg (by decide), if_neg (by decide), wi b 6 (by decide)]; unfold ra6; rw [if_neg ncn]; rfl
              | 7, _ => show (if k13 k then _ else if k = 4 then _ else (if (8 : Nat) = 5 then _ else if (8 : Nat) = 4 then _ else if (8 : Nat) = 3 then _ else wb1 T t k c b 8)) = ra1 k r; rw [if_neg c13, if_neg c4, if_neg (by decide), if_neg (by decide), if_neg (by decide), w8]
          · have es4 : sy4 T t u = sy3 T t u := by unfold sy4; rw [if_neg fs3]
            obtain ⟨j1, j2⟩ := nxt_f n4 fs3
            have q5 := rw5_f j2
            have q6 := rw6_f (T := T) (t := t) (k := k) (r := r) (by rw [q5]; exact j2)
            rw [es, es4]
            refine ⟨?_, fun f => absurd f fs3⟩
            rw [q6, q5]; exact nxt_z j1 fs3
        · have es : syE T t k u = sy1 T t u := by unfold syE; rw [if_neg c13, if_neg c4, if_neg fs1]
          obtain ⟨j1, j2⟩ := nxt_f n3 fs1
          rw [es]
          refine ⟨?_, fun f => absurd f fs1⟩
          rw [rw36_f j2]; exact nxt_z j1 fs1
  · have e2 : tw2 T t k c = tw1 T t k c := by unfold tw2; rw [if_neg f1]
    obtain ⟨j1, j2⟩ := nxt_f n2 f1
    rw [e2]
    refine ⟨?_, fun f => absurd f f1⟩
    rw [rw26_f j2]; exact nxt_z j1 f1
end EQ6
