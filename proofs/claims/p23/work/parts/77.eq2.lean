/-! ===== what is taken is the same ===== -/
section EQ2
variable {M : Mm} {T : Nat → Int32} {t : Nat} {a : Tst} {r : Rst}
theorem tkN_f {g : Int32} (h : ¬ a.2.2.2.2.1 = 0) : tkN g a = a := by
  unfold tkN
  split
  · split
    · rfl
    · exact tfl_f h
  · exact tfl_f h
theorem rl_num {g : Nat} (hg : g < 1000) (h : RL a r) : RL (tkN (nI g) a) (isn 0 (nI g) r) ∧ ((tkN (nI g) a).2.2.2.2.1 = 0 → tkNv (nI g) a = r.2.2.2.1 ∧ tkN (nI g) a = a ∧ isn 0 (nI g) r = r ∧ a.2.2.2.2.1 = 0) := by
  by_cases f : a.2.2.2.2.1 = 0
  · have fr : r.2.2.2.2.1 = 0 := h.1.symm.trans f
    obtain ⟨e1, e2, ks, num⟩ := h.2.2 f
    by_cases k3 : a.1 = 3
    · obtain ⟨ev, n, hn, en⟩ := num k3
      have s2 : r.2.2.1 = 2 := (ks3 ks).mp k3
      have w1 : wts (if r.2.2.1 = 2 then 1 else 0) 2 r = r := wts_t (by rw [if_pos s2]; decide)
      by_cases l : n ≤ g
      · have l1 : a.2.2.2.1 ≤ nI g := by rw [en, nle (by omega) (by omega)]; exact l
        have c : ¬ r.2.2.2.1 < 0 ∧ ¬ nI g < r.2.2.2.1 := by
          rw [← ev, en]
          exact ⟨n0 n (by omega), by rw [nlt (by omega) (by omega)]; omega⟩
        have ea : tkN (nI g) a = a := by unfold tkN; rw [if_pos k3, if_pos l1]
        have er : isn 0 (nI g) r = r := by unfold isn; rw [w1]; exact wts_t (by rw [if_pos c]; decide)
        rw [ea, er]
        refine ⟨h, fun _ => ⟨?_, rfl, rfl, f⟩⟩
        unfold tkNv; rw [if_pos k3, if_pos l1, ev]
      · have l1 : ¬ a.2.2.2.1 ≤ nI g := by rw [en, nle (by omega) (by omega)]; exact l
        have c : ¬ (¬ r.2.2.2.1 < 0 ∧ ¬ nI g < r.2.2.2.1) := by
          rw [← ev, en]
          exact fun z => z.2 (by rw [nlt (by omega) (by omega)]; omega)
        have ea : tkN (nI g) a = tfl 3 a := by unfold tkN; rw [if_pos k3, if_neg l1]
        have er : isn 0 (nI g) r = wts 0 3 r := by unfold isn; rw [w1, if_neg c]
        rw [ea, er]
        exact ⟨rl_fail h f (by decide), fun z => absurd z (tfl_ne (by decide))⟩
    · have s2 : ¬ r.2.2.1 = 2 := fun z => k3 ((ks3 ks).mpr z)
      have ea : tkN (nI g) a = tfl 2 a := by unfold tkN; rw [if_neg k3]
      have er : isn 0 (nI g) r = wts 0 2 r := by
        unfold isn
        rw [if_neg s2, wts_f]
        unfold wts; rw [if_pos ⟨rfl, fr⟩]; show ¬ (2 : Int32) = 0; decide
      rw [ea, er]
      exact ⟨rl_fail h f (by decide), fun z => absurd z (tfl_ne (by decide))⟩
  · have fr : ¬ r.2.2.2.2.1 = 0 := fun z => f (h.1.trans z)
    rw [tkN_f f, isn_f fr]
    exact ⟨h, fun z => absurd z f⟩
/-- a name is wanted -/
theorem rl_nam (h : RL a r) (f : a.2.2.2.2.1 = 0) : (a.1 = 2 ∧ nam r = r ∧ r.2.2.1 = 1) ∨ (¬ a.1 = 2 ∧ RL (tfl 2 a) (nam r) ∧ ¬ (nam r).2.2.2.2.1 = 0) := by
  have fr : r.2.2.2.2.1 = 0 := h.1.symm.trans f
  obtain ⟨e1, e2, ks, num⟩ := h.2.2 f
  by_cases k2 : a.1 = 2
  · have s1 : r.2.2.1 = 1 := (ks2 ks).mp k2
    refine Or.inl ⟨k2, ?_, s1⟩
    unfold nam; exact wts_t (by rw [if_pos s1]; decide)
  · have s1 : ¬ r.2.2.1 = 1 := fun z => k2 ((ks2 ks).mpr z)
    have e : nam r = wts 0 2 r := by unfold nam; rw [if_neg s1]
    refine Or.inr ⟨k2, by rw [e]; exact rl_fail h f (by decide), ?_⟩
    rw [e]; unfold wts; rw [if_pos ⟨rfl, fr⟩]; show ¬ (2 : Int32) = 0; decide
theorem nam_f (h : ¬ r.2.2.2.2.1 = 0) : nam r = r := by unfold nam; exact wts_f h
/-- doctors -/
def dmc (T : Nat → Int32) (t : Nat) (r : Rst) : Rst := wts (if rmv T t r = -4 then 0 else 1) 3 (nam r)
theorem rms_d : rms T t r = nxs T t (dmc T t r) := rfl
theorem tkD_f (h : ¬ a.2.2.2.2.1 = 0) : tkD T t a = a := by
  unfold tkD
  split
  · split
    · rfl
    · exact tfl_f h
  · exact tfl_f h
theorem tkO_f (h : ¬ a.2.2.2.2.1 = 0) : tkO T t a = a := by
  unfold tkO
  rw [tkD_f h]
  split
  · split
    · rfl
    · exact tfl_f h
  · rfl
theorem rl_main (h : RL a r) : RL (tkD T t a) (dmc T t r) ∧ ((tkD T t a).2.2.2.2.1 = 0 → tkDv T t a = rmv T t r ∧ tkD T t a = a ∧ dmc T t r = r ∧ a.2.2.2.2.1 = 0) := by
  by_cases f : a.2.2.2.2.1 = 0
  · have fr : r.2.2.2.2.1 = 0 := h.1.symm.trans f
    obtain ⟨e1, e2, ks, num⟩ := h.2.2 f
    rcases rl_nam h f with ⟨k2, en, s1⟩ | ⟨k2, hn, fn⟩
    · have ev : rmv T t r = ltr T t 97 8 (r.2.1 - r.1) r.1 0 := by unfold rmv; rw [en, if_pos fr]
      have el : tLt T t 97 8 a = ltc T t 97 8 (r.2.1 - r.1) r.1 0 := by unfold tLt; rw [e1, e2]
      rcases lt_eq (T := T) (t := t) (fi := 97) (ma := 8) (Or.inr rfl) (r.2.1 - r.1) r.1 0 (by decide) with ⟨q1, q2⟩ | ⟨c, hc, q1, q2⟩
      · have q1' : tLt T t 97 8 a = -1 := el.trans q1
        have q2' : rmv T t r = -4 := ev.trans q2
        have ea : tkD T t a = tfl 3 a := by unfold tkD; rw [if_pos k2, q1', if_neg (by decide)]
        have er : dmc T t r = wts 0 3 r := by unfold dmc; rw [q2', if_pos rfl, en]
        rw [ea, er]
        exact ⟨rl_fail h f (by decide), fun z => absurd z (tfl_ne (by decide))⟩
      · have q1' : tLt T t 97 8 a = nI c := el.trans q1
        have q2' : rmv T t r = nI c := ev.trans q2
        have n4 : ∀ c, c < 256 → ¬ nI c = -4 := by decide +kernel
        have hc' : c < 256 := hc
        have p0 : (0 : Int32) ≤ nI c := nI_pos' (by omega)
        have ea : tkD T t a = a := by unfold tkD; rw [if_pos k2, q1', if_pos p0]
        have er : dmc T t r = r := by unfold dmc; rw [q2', if_neg (n4 c hc'), en]; exact wts_t (by decide)
        rw [ea, er]
        refine ⟨h, fun _ => ⟨?_, rfl, rfl, f⟩⟩
        unfold tkDv; rw [if_pos k2, q1', if_pos p0, q2']
    · have ea : tkD T t a = tfl 2 a := by unfold tkD; rw [if_neg k2]
      have er : dmc T t r = nam r := by unfold dmc; exact wts_f fn
      rw [ea, er]
      exact ⟨hn, fun z => absurd z (tfl_ne (by decide))⟩
  · have fr : ¬ r.2.2.2.2.1 = 0 := fun z => f (h.1.trans z)
    have er : dmc T t r = r := by unfold dmc; rw [nam_f fr]; exact wts_f fr
    rw [tkD_f f, er]
    exact ⟨h, fun z => absurd z f⟩
/-- one doctor -/
def ddc (T : Nat → Int32) (t : Nat) (r : Rst) : Rst := wts (if nI (r.2.1 - r.1) = 1 ∧ ¬ rdv T t r < 0 ∧ ¬ 7 < rdv T t r then 1 else 0) 3 (nam r)
theorem rds_d : rds T t r = nxs T t (ddc T t r) := rfl
theorem rl_doc (hr : r.2.1 ≤ 400) (h : RL a r) : RL (tkO T t a) (ddc T t r) ∧ ((tkO T t a).2.2.2.2.1 = 0 → tkOv T t a = rdv T t r ∧ tkO T t a = a ∧ ddc T t r = r ∧ a.2.2.2.2.1 = 0) := by
  by_cases f : a.2.2.2.2.1 = 0
  · have fr : r.2.2.2.2.1 = 0 := h.1.symm.trans f
    obtain ⟨e1, e2, ks, num⟩ := h.2.2 f
    rcases rl_nam h f with ⟨k2, en, s1⟩ | ⟨k2, hn, fn⟩
    · have el : tLt T t 97 8 a = ltc T t 97 8 (r.2.1 - r.1) r.1 0 := by unfold tLt; rw [e1, e2]
      have bad : ¬ (nI (r.2.1 - r.1) = 1 ∧ ¬ rdv T t r < 0 ∧ ¬ 7 < rdv T t r) → tkO T t a = tfl 3 a → RL (tkO T t a) (ddc T t r) ∧ ((tkO T t a).2.2.2.2.1 = 0 → tkOv T t a = rdv T t r ∧ tkO T t a = a ∧ ddc T t r = r ∧ a.2.2.2.2.1 = 0) := by
        intro n ea
        have er : ddc T t r = wts 0 3 r := by unfold ddc; rw [if_neg n, en]
        rw [ea, er]
        exact ⟨rl_fail h f (by decide), fun z => absurd z (tfl_ne (by decide))⟩
      rcases lt_eq (T := T) (t := t) (fi := 97) (ma := 8) (Or.inr rfl) (r.2.1 - r.1) r.1 0 (by decide) with ⟨q1, q2⟩ | ⟨c, hc, q1, q2⟩
      · have q1' : tLt T t 97 8 a = -1 := el.trans q1
        have ed : tkDv T t a = -1 := by unfold tkDv; rw [if_pos k2, q1', if_neg (by decide)]
        have edd : tkD T t a = tfl 3 a := by unfold tkD; rw [if_pos k2, q1', if_neg (by decide)]
        have ea : tkO T t a = tfl 3 a := by unfold tkO; rw [ed, if_neg (by decide), edd]
        refine bad (fun z => ?_) ea
        -- one letter, of a to h: no fault
        have l1 : r.2.1 - r.1 = 1 := (ninj (i := r.2.1 - r.1) (j := 1) (by omega) (by decide)).mp z.1
        have z1 : ¬ lk T t r.1 - 97 < 0 := z.2.1
        have z2 : ¬ 7 < lk T t r.1 - 97 := z.2.2
        have z3 : ¬ (8 : Int32) ≤ lk T t r.1 - 97 := fun y => z2 ((sgt (c := 7) (d := 8) (by decide)).mpr y)
        have q3 : ltc T t 97 8 1 r.1 0 = -1 := by rw [← l1]; exact q1
        rw [ltc] at q3
        obtain ⟨d, hd, e⟩ := rng (c := 8) (n := 8) rfl (by decide) z1 z3
        have nb : ¬ ((ushr (0 : Int32) (lk T t r.1 - 97)) &&& 1) = 1 := by
          rw [e, bitu _ (by omega), b_0]; decide
        rw [if_neg (fun y => y.elim (fun y => y.elim z1 z3) nb), ltc, e] at q3
        have : ∀ d, d < 8 → ¬ ((0 : Int32) ||| ((1 : Int32) <<< (nI d &&& 31))) = -1 := by decide +kernel
        exact this d hd q3
      · have q1' : tLt T t 97 8 a = nI c := el.trans q1
        have hc' : c < 256 := hc
        have p0 : (0 : Int32) ≤ nI c := nI_pos' (by omega)
        have ed : tkDv T t a = nI c := by unfold tkDv; rw [if_pos k2, q1', if_pos p0]
        have edd : tkD T t a = a := by unfold tkD; rw [if_pos k2, q1', if_pos p0]
        have cn : pcn c = r.2.1 - r.1 := by
          have := ltc_cn (T := T) (t := t) (fi := 97) (r.2.1 - r.1) r.1 0 c (by decide) q1 hc'
          rw [this, show pcn 0 = 0 from by decide]; omega
        have key : ∀ c, c < 256 → (bc32 (nI c) = 1 ↔ pcn c = 1) := by decide +kernel
        by_cases o : pcn c = 1
        · have b1 : bc32 (nI c) = 1 := (key c hc').mpr o
          have l1 : r.2.1 - r.1 = 1 := cn.symm.trans o
          have ea : tkO T t a = a := by unfold tkO; rw [ed, if_pos p0, if_pos b1, edd]
          have q3 : ltc T t 97 8 1 r.1 0 = nI c := by rw [← l1]; exact q1
          rw [ltc] at q3
          have n1 : ∀ c, c < 256 → ¬ (-1 : Int32) = nI c := by decide +kernel
          by_cases q : (lk T t r.1 - 97 < 0 ∨ 8 ≤ lk T t r.1 - 97) ∨ ((ushr (0 : Int32) (lk T t r.1 - 97)) &&& 1) = 1
          · rw [if_pos q] at q3; exact absurd q3 (n1 c hc')
          · rw [if_neg q, ltc] at q3
            have z1 : ¬ lk T t r.1 - 97 < 0 := fun y => q (Or.inl (Or.inl y))
            have z3 : ¬ (8 : Int32) ≤ lk T t r.1 - 97 := fun y => q (Or.inl (Or.inr y))
            have z2 : ¬ 7 < lk T t r.1 - 97 := fun y => z3 ((sgt (c := 7) (d := 8) (by decide)).mp y)
            obtain ⟨d, hd, e⟩ := rng (c := 8) (n := 8) rfl (by decide) z1 z3
            have er : ddc T t r = r := by
              unfold ddc
              rw [if_pos ⟨by rw [l1]; rfl, z1, z2⟩, en]; exact wts_t (by decide)
            rw [ea, er]
            refine ⟨h, fun _ => ⟨?_, rfl, rfl, f⟩⟩
            have ev : rdv T t r = nI d := e
            unfold tkOv
            rw [ed, if_pos p0, if_pos b1, ev]
            rw [e] at q3
            rw [← q3]
            have : ∀ d, d < 8 → ntz ((0 : Int32) ||| ((1 : Int32) <<< (nI d &&& 31))) = nI d := by decide +kernel
            exact this d hd
        · have b1 : ¬ bc32 (nI c) = 1 := fun z => o ((key c hc').mp z)
          have ea : tkO T t a = tfl 3 a := by unfold tkO; rw [ed, if_pos p0, if_neg b1, edd]
          refine bad (fun z => o ?_) ea
          rw [cn]
          exact (ninj (i := r.2.1 - r.1) (j := 1) (by omega) (by decide)).mp z.1
    · have ed : tkDv T t a = -1 := by unfold tkDv; rw [if_neg k2]
      have edd : tkD T t a = tfl 2 a := by unfold tkD; rw [if_neg k2]
      have ea : tkO T t a = tfl 2 a := by unfold tkO; rw [ed, if_neg (by decide), edd]
      have er : ddc T t r = nam r := by unfold ddc; exact wts_f fn
      rw [ea, er]
      exact ⟨hn, fun z => absurd z (tfl_ne (by decide))⟩
  · have fr : ¬ r.2.2.2.2.1 = 0 := fun z => f (h.1.trans z)
    have er : ddc T t r = r := by unfold ddc; rw [nam_f fr]; exact wts_f fr
    rw [tkO_f f, er]
    exact ⟨h, fun z => absurd z f⟩
/-- marks -/
def mkc (T : Nat → Int32) (t : Nat) (no : Int32) (r : Rst) : Rst := wts (if (mkv T t r &&& no) = 0 then 1 else 0) 4 (wts (if mkv T t r = -4 then 0 else 1) 3 (mk1 r))
theorem mks_d {no : Int32} : mks T t no r = nxs T t (mkc T t no r) := rfl
theorem tkM_f (h : ¬ a.2.2.2.2.1 = 0) : tkM T t a = a := by
  unfold tkM
  split
  · rfl
  · split
    · split
      · rfl
      · exact tfl_f h
    · exact tfl_f h
theorem mkc_f {no : Int32} (h : ¬ r.2.2.2.2.1 = 0) : mkc T t no r = r := by
  unfold mkc mk1
  rw [wts_f (g := if r.2.2.1 = 1 ∨ r.2.2.1 = 3 then 1 else 0) h, wts_f (g := if mkv T t r = -4 then 0 else 1) h, wts_f h]
/-- what the class does about marks that it has been told before -/
def tk4 (T : Nat → Int32) (t : Nat) (no : Int32) (a : Tst) : Tst := if (no &&& tkMv T t a) = 0 then tkM T t a else tfl 4 (tkM T t a)
theorem rl_marks {no : Int32} (h : RL a r) : RL (tk4 T t no a) (mkc T t no r) ∧ ((tk4 T t no a).2.2.2.2.1 = 0 → tkMv T t a = mkv T t r ∧ tk4 T t no a = a ∧ mkc T t no r = r ∧ a.2.2.2.2.1 = 0) := by
  by_cases f : a.2.2.2.2.1 = 0
  · have fr : r.2.2.2.2.1 = 0 := h.1.symm.trans f
    obtain ⟨e1, e2, ks, num⟩ := h.2.2 f
    have good : tkM T t a = a → tkMv T t a = mkv T t r → ¬ mkv T t r = -4 → mk1 r = r → RL (tk4 T t no a) (mkc T t no r) ∧ ((tk4 T t no a).2.2.2.2.1 = 0 → tkMv T t a = mkv T t r ∧ tk4 T t no a = a ∧ mkc T t no r = r ∧ a.2.2.2.2.1 = 0) := by
      intro ea ev n4 em
      have e3 : wts (if mkv T t r = -4 then 0 else 1) 3 (mk1 r) = r := by rw [em, if_neg n4]; exact wts_t (by decide)
      by_cases z : (no &&& tkMv T t a) = 0
      · have z' : (mkv T t r &&& no) = 0 := by rw [← ev, Int32.and_comm]; exact z
        have e4 : tk4 T t no a = a := by unfold tk4; rw [if_pos z, ea]
        have er : mkc T t no r = r := by unfold mkc; rw [e3, if_pos z']; exact wts_t (by decide)
        rw [e4, er]
        exact ⟨h, fun _ => ⟨ev, rfl, rfl, f⟩⟩
      · have z' : ¬ (mkv T t r &&& no) = 0 := by rw [← ev, Int32.and_comm]; exact z
        have e4 : tk4 T t no a = tfl 4 a := by unfold tk4; rw [if_neg z, ea]
        have er : mkc T t no r = wts 0 4 r := by unfold mkc; rw [e3, if_neg z']
        rw [e4, er]
        exact ⟨rl_fail h f (by decide), fun y => absurd y (tfl_ne (by decide))⟩
    have badk : ∀ k : Int32, ¬ k = 0 → tkM T t a = tfl k a → mkc T t no r = wts 0 k r → RL (tk4 T t no a) (mkc T t no r) ∧ ((tk4 T t no a).2.2.2.2.1 = 0 → tkMv T t a = mkv T t r ∧ tk4 T t no a = a ∧ mkc T t no r = r ∧ a.2.2.2.2.1 = 0) := by
      intro k hk ea er
      have e4 : tk4 T t no a = tfl k a := by
        unfold tk4
        rw [ea]
        split
        · rfl
        · exact tfl_f (tfl_ne hk)
      rw [e4, er]
      exact ⟨rl_fail h f hk, fun y => absurd y (tfl_ne hk)⟩
    by_cases k4 : a.1 = 4
    · have s3 : r.2.2.1 = 3 := (ks4 ks).mp k4
      have s1 : ¬ r.2.2.1 = 1 := by rw [s3]; decide
      have ev : mkv T t r = 0 := by unfold mkv; rw [if_neg s1]
      refine good (by unfold tkM; rw [if_pos k4]) (by unfold tkMv; rw [if_pos k4, ev]) (by rw [ev]; decide) ?_
      unfold mk1; exact wts_t (by rw [if_pos (Or.inr s3)]; decide)
    · by_cases k2 : a.1 = 2
      · have s1 : r.2.2.1 = 1 := (ks2 ks).mp k2
        have em : mk1 r = r := by unfold mk1; exact wts_t (by rw [if_pos (Or.inl s1)]; decide)
        have ev : mkv T t r = ltr T t 112 6 (r.2.1 - r.1) r.1 0 := by unfold mkv; rw [if_pos s1]
        have el : tLt T t 112 6 a = ltc T t 112 6 (r.2.1 - r.1) r.1 0 := by unfold tLt; rw [e1, e2]
        rcases lt_eq (T := T) (t := t) (fi := 112) (ma := 6) (Or.inl rfl) (r.2.1 - r.1) r.1 0 (by decide) with ⟨q1, q2⟩ | ⟨c, hc, q1, q2⟩
        · have q1' : tLt T t 112 6 a = -1 := el.trans q1
          have q2' : mkv T t r = -4 := ev.trans q2
          refine badk 3 (by decide) (by unfold tkM; rw [if_neg k4, if_pos k2, q1', if_neg (by decide)]) ?_
          unfold mkc
          rw [em, q2', if_pos rfl, wts_f]
          unfold wts; rw [if_pos ⟨rfl, fr⟩]; show ¬ (3 : Int32) = 0; decide
        · have q1' : tLt T t 112 6 a = nI c := el.trans q1
          have q2' : mkv T t r = nI c := ev.trans q2
          have hc' : c < 64 := hc
          have n4 : ∀ c, c < 64 → ¬ nI c = -4 := by decide +kernel
          have p0 : (0 : Int32) ≤ nI c := nI_pos' (by omega)
          exact good (by unfold tkM; rw [if_neg k4, if_pos k2, q1', if_pos p0]) (by unfold tkMv; rw [if_neg k4, if_pos k2, q1', if_pos p0, q2']) (by rw [q2']; exact n4 c hc') em
      · have s1 : ¬ r.2.2.1 = 1 := fun z => k2 ((ks2 ks).mpr z)
        have s3 : ¬ r.2.2.1 = 3 := fun z => k4 ((ks4 ks).mpr z)
        refine badk 2 (by decide) (by unfold tkM; rw [if_neg k4, if_neg k2]) ?_
        have e : mk1 r = wts 0 2 r := by unfold mk1; rw [if_neg (fun z => z.elim s1 s3)]
        have fn : ¬ (wts 0 2 r).2.2.2.2.1 = 0 := by unfold wts; rw [if_pos ⟨rfl, fr⟩]; show ¬ (2 : Int32) = 0; decide
        unfold mkc
        rw [e, wts_f (g := if mkv T t r = -4 then 0 else 1) fn, wts_f fn]
  · have fr : ¬ r.2.2.2.2.1 = 0 := fun z => f (h.1.trans z)
    have e4 : tk4 T t no a = a := by
      unfold tk4
      rw [tkM_f f]
      split
      · rfl
      · exact tfl_f f
    rw [e4, mkc_f fr]
    exact ⟨h, fun z => absurd z f⟩
theorem adv_k {x : Tst} (f : x.2.2.2.2.1 = 0) (h : ¬ (adv T t x).2.2.2.2.1 = 0) : (adv T t x).1 = 0 := by
  unfold adv at h ⊢
  by_cases q : (adv0 T t x).1 = 0
  · rw [if_pos q]
    unfold tfl
    split
    · exact q
    · exact q
  · rw [if_neg q] at h
    exact absurd (adv0_f.trans f) h
/-- the end of a line -/
theorem rl_close (tc : TC M T t) {x : Tst} {y : Rst} (h : RL x y) : RL (tkC T t x) (eln T t (nxs T t y)) := by
  by_cases f : x.2.2.2.2.1 = 0
  · have ha := rl_adv tc h f
    have ec : tkC T t x = if (adv T t x).1 = 5 then adv T t (adv T t x) else tfl 2 (adv T t x) := by unfold tkC; rw [if_pos f]
    rw [ec]
    have ka : ¬ (adv T t x).2.2.2.2.1 = 0 → (adv T t x).1 = 0 := adv_k f
    generalize adv T t x = a at ha ka ⊢
    generalize nxs T t y = r at ha ⊢
    unfold eln
    by_cases fa : a.2.2.2.2.1 = 0
    · have fr : r.2.2.2.2.1 = 0 := ha.1.symm.trans fa
      obtain ⟨e1, e2, ks, num⟩ := ha.2.2 fa
      by_cases k5 : a.1 = 5
      · have s4 : r.2.2.1 = 4 := (ks5 ks).mp k5
        have ew : wts (if r.2.2.1 = 4 then 1 else 0) 2 r = r := wts_t (by rw [if_pos s4]; decide)
        rw [if_pos k5, ew]
        exact rl_adv tc ha fa
      · have s4 : ¬ r.2.2.1 = 4 := fun z => k5 ((ks5 ks).mpr z)
        rw [if_neg k5, if_neg s4]
        have fn : ¬ (wts 0 2 r).2.2.2.2.1 = 0 := by unfold wts; rw [if_pos ⟨rfl, fr⟩]; show ¬ (2 : Int32) = 0; decide
        rw [nxs_f fn]
        exact rl_fail ha fa (by decide)
    · have fr : ¬ r.2.2.2.2.1 = 0 := fun z => fa (ha.1.trans z)
      have k5 : ¬ a.1 = 5 := by rw [ka fa]; decide
      rw [if_neg k5, tfl_f fa, wts_f fr, nxs_f fr]
      exact ha
  · have fy : ¬ y.2.2.2.2.1 = 0 := fun z => f (h.1.trans z)
    have ec : tkC T t x = x := by unfold tkC; rw [if_neg f]
    rw [ec, nxs_f fy]
    unfold eln
    rw [wts_f fy, nxs_f fy]
    exact h
end EQ2
