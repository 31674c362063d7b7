/-! ===== names ===== -/
/-- a token as a list of letters -/
def tkl (T : Nat → Int32) (t : Nat) : Nat → Nat → List Int32
  | _, 0 => []
  | f, n + 1 => lk T t f :: tkl T t (f + 1) n
def chl (j : Nat) : Nat → Nat → List Int32
  | _, 0 => []
  | f, n + 1 => chr j f :: chl j (f + 1) n
theorem tkl_len (T : Nat → Int32) (t : Nat) : ∀ f n, (tkl T t f n).length = n
  | _, 0 => rfl
  | f, n + 1 => by rw [tkl, List.length_cons, tkl_len T t (f + 1) n]
theorem chl_len (j : Nat) : ∀ f n, (chl j f n).length = n
  | _, 0 => rfl
  | f, n + 1 => by rw [chl, List.length_cons, chl_len j (f + 1) n]
theorem nme_d (T : Nat → Int32) (t j : Nat) : ∀ n p f, nme T t j p n f = decide (chl j f n = tkl T t p n)
  | 0, _, _ => by rw [nme]; rfl
  | n + 1, p, f => by
    rw [nme, chl, tkl, nme_d T t j n (p + 1) (f + 1)]
    by_cases c : chr j f = lk T t p
    · rw [if_pos c, c]
      by_cases d : chl j (f + 1) n = tkl T t (p + 1) n
      · rw [decide_eq_true d, d, decide_eq_true rfl]
      · rw [decide_eq_false d, decide_eq_false (fun z => d (List.cons.inj z).2)]
    · rw [if_neg c, decide_eq_false (fun z => c (List.cons.inj z).1)]
theorem nmd_d (T : Nat → Int32) (t j : Nat) (s : Tst) (f u : Nat) : nmd T t j s f u = decide (chl j f (u - f) = tkl T t s.2.1 (s.2.2.1 - s.2.1)) := by
  unfold nmd
  by_cases l : u - f = s.2.2.1 - s.2.1
  · rw [decide_eq_true l, Bool.true_and, nme_d, l]
  · rw [decide_eq_false l, Bool.false_and, decide_eq_false (fun z => l ?_)]
    have := congrArg List.length z
    rwa [chl_len, tkl_len] at this
/-- the names of a constant -/
def sgs (j : Nat) : Nat → Nat → Nat → List (List Int32)
  | 0, _, _ => []
  | n + 1, i, g => if i = slen.getD j 0 ∨ chr j i = 32 then chl j g (i - g) :: sgs j n (i + 1) (i + 1) else sgs j n (i + 1) g
def fnd (k : List Int32) : List (List Int32) → Nat → Int32
  | [], _ => -1
  | l :: L, x => if l = k then nI x else fnd k L (x + 1)
theorem amg_d (T : Nat → Int32) (t j : Nat) (s : Tst) : ∀ n i g x, amg T t j s n i g x = fnd (tkl T t s.2.1 (s.2.2.1 - s.2.1)) (sgs j n i g) x
  | 0, _, _, _ => rfl
  | n + 1, i, g, x => by
    rw [amg, sgs]
    by_cases c : i = slen.getD j 0 ∨ chr j i = 32
    · rw [if_pos c, if_pos c, fnd, nmd_d, amg_d T t j s n (i + 1) (i + 1) (x + 1)]
      by_cases d : chl j g (i - g) = tkl T t s.2.1 (s.2.2.1 - s.2.1)
      · rw [decide_eq_true d, if_pos rfl, if_pos d]
      · rw [decide_eq_false d, if_neg (by decide), if_neg d]
    · rw [if_neg c, if_neg c]
      exact amg_d T t j s n (i + 1) g x
theorem amo_d (T : Nat → Int32) (t j : Nat) (s : Tst) : amo T t j s = fnd (tkl T t s.2.1 (s.2.2.1 - s.2.1)) (sgs j (slen.getD j 0 + 1) 0 0) 0 := amg_d T t j s _ 0 0 0
theorem sgs0 : sgs 0 (slen.getD 0 0 + 1) 0 0 = [[119, 111, 114, 100], [99, 105, 116, 101], [97, 103, 97, 105, 110, 115, 116], [110, 111, 116, 101], [108, 105, 107, 101], [108, 97, 119], [105, 110], [99, 111, 112, 105, 101, 115]] := by decide +kernel
theorem sgs1 : sgs 1 (slen.getD 1 0 + 1) 0 0 = [[110, 111], [121, 101, 115]] := by decide +kernel
theorem sgs2 : sgs 2 (slen.getD 2 0 + 1) 0 0 = [[109, 97, 105, 110], [99, 111, 112, 105, 101, 115], [110, 111, 116, 101, 115], [116, 119, 111], [104, 101, 97, 100], [115, 105, 108, 101, 110, 116], [108, 97, 119, 115]] := by decide +kernel
theorem sgs3 : sgs 3 (slen.getD 3 0 + 1) 0 0 = [[110, 111, 110, 101], [108, 97, 116, 101, 114], [115, 112, 101, 99, 105, 97, 108]] := by decide +kernel
theorem sgs4 : sgs 4 (slen.getD 4 0 + 1) 0 0 = [[110, 111], [121, 101, 115], [111, 112, 101, 110]] := by decide +kernel
theorem sgs5 : sgs 5 (slen.getD 5 0 + 1) 0 0 = [[110, 111, 110, 101], [108, 97, 116, 101, 114], [102, 105, 114, 115, 116]] := by decide +kernel
section EQ3
variable (T : Nat → Int32) (t f p : Nat)
theorem tk_ne {l : List Int32} (h : ¬ p - f = l.length) : ¬ tkl T t f (p - f) = l := fun z => h (by rw [← z, tkl_len])
theorem isv2 (a b : Int32) (hp : p ≤ 400) : isv T t f p 2 a b 0 0 = decide (tkl T t f (p - f) = [a, b]) := by
  unfold isv
  by_cases l : p - f = 2
  · rw [l]
    refine decide_eq_decide.mpr ?_
    simp only [tkl, List.cons.injEq, and_true]
    exact ⟨fun z => ⟨z.2.1, z.2.2.1⟩, fun z => ⟨rfl, z.1, z.2, Or.inl (by decide), Or.inl (by decide)⟩⟩
  · rw [decide_eq_false (tk_ne T t f p (l := [a, b]) l), decide_eq_false]
    exact fun z => l ((ninj (j := 2) (by omega) (by decide)).mp z.1)
theorem isv3 (a b c : Int32) (hp : p ≤ 400) : isv T t f p 3 a b c 0 = decide (tkl T t f (p - f) = [a, b, c]) := by
  unfold isv
  by_cases l : p - f = 3
  · rw [l]
    refine decide_eq_decide.mpr ?_
    simp only [tkl, List.cons.injEq, and_true]
    refine ⟨fun z => ⟨z.2.1, z.2.2.1, ?_⟩, fun z => ⟨rfl, z.1, z.2.1, Or.inr z.2.2, Or.inl (by decide)⟩⟩
    rcases z.2.2.2.1 with y | y
    · exact absurd y (by decide)
    · exact y
  · rw [decide_eq_false (tk_ne T t f p (l := [a, b, c]) l), decide_eq_false]
    exact fun z => l ((ninj (j := 3) (by omega) (by decide)).mp z.1)
theorem isv4 (a b c d : Int32) (hp : p ≤ 400) : isv T t f p 4 a b c d = decide (tkl T t f (p - f) = [a, b, c, d]) := by
  unfold isv
  by_cases l : p - f = 4
  · rw [l]
    refine decide_eq_decide.mpr ?_
    simp only [tkl, List.cons.injEq, and_true]
    refine ⟨fun z => ⟨z.2.1, z.2.2.1, ?_, ?_⟩, fun z => ⟨rfl, z.1, z.2.1, Or.inr z.2.2.1, Or.inr z.2.2.2⟩⟩
    · rcases z.2.2.2.1 with y | y
      · exact absurd y (by decide)
      · exact y
    · rcases z.2.2.2.2 with y | y
      · exact absurd y (by decide)
      · exact y
  · rw [decide_eq_false (tk_ne T t f p (l := [a, b, c, d]) l), decide_eq_false]
    exact fun z => l ((ninj (j := 4) (by omega) (by decide)).mp z.1)
theorem isv5 (a b c d e : Int32) (hp : p ≤ 400) : (isv T t f p 5 a b c d && gov T t f 4 e 0 0) = decide (tkl T t f (p - f) = [a, b, c, d, e]) := by
  unfold isv gov
  rw [← Bool.decide_and]
  by_cases l : p - f = 5
  · rw [l]
    refine decide_eq_decide.mpr ?_
    simp only [tkl, List.cons.injEq, and_true]
    refine ⟨fun z => ⟨z.1.2.1, z.1.2.2.1, ?_, ?_, z.2.1⟩, fun z => ⟨⟨rfl, z.1, z.2.1, Or.inr z.2.2.1, Or.inr z.2.2.2.1⟩, z.2.2.2.2, Or.inl trivial, Or.inl trivial⟩⟩
    · rcases z.1.2.2.2.1 with y | y
      · exact absurd y (by decide)
      · exact y
    · rcases z.1.2.2.2.2 with y | y
      · exact absurd y (by decide)
      · exact y
  · rw [decide_eq_false (tk_ne T t f p (l := [a, b, c, d, e]) l), decide_eq_false]
    exact fun z => l ((ninj (j := 5) (by omega) (by decide)).mp z.1.1)
theorem isv6 (a b c d e g : Int32) (hg : ¬ g = 0) (hp : p ≤ 400) : (isv T t f p 6 a b c d && gov T t f 4 e g 0) = decide (tkl T t f (p - f) = [a, b, c, d, e, g]) := by
  unfold isv gov
  rw [← Bool.decide_and]
  by_cases l : p - f = 6
  · rw [l]
    refine decide_eq_decide.mpr ?_
    simp only [tkl, List.cons.injEq, and_true]
    refine ⟨fun z => ⟨z.1.2.1, z.1.2.2.1, ?_, ?_, z.2.1, ?_⟩, fun z => ⟨⟨rfl, z.1, z.2.1, Or.inr z.2.2.1, Or.inr z.2.2.2.1⟩, z.2.2.2.2.1, Or.inr z.2.2.2.2.2, Or.inl trivial⟩⟩
    · rcases z.1.2.2.2.1 with y | y
      · exact absurd y (by decide)
      · exact y
    · rcases z.1.2.2.2.2 with y | y
      · exact absurd y (by decide)
      · exact y
    · exact z.2.2.1.resolve_left hg
  · rw [decide_eq_false (tk_ne T t f p (l := [a, b, c, d, e, g]) l), decide_eq_false]
    exact fun z => l ((ninj (j := 6) (by omega) (by decide)).mp z.1.1)
theorem isv7 (a b c d e g i : Int32) (hg : ¬ g = 0) (hi : ¬ i = 0) (hp : p ≤ 400) : (isv T t f p 7 a b c d && gov T t f 4 e g i) = decide (tkl T t f (p - f) = [a, b, c, d, e, g, i]) := by
  unfold isv gov
  rw [← Bool.decide_and]
  by_cases l : p - f = 7
  · rw [l]
    refine decide_eq_decide.mpr ?_
    simp only [tkl, List.cons.injEq, and_true]
    refine ⟨fun z => ⟨z.1.2.1, z.1.2.2.1, ?_, ?_, z.2.1, ?_, ?_⟩, fun z => ⟨⟨rfl, z.1, z.2.1, Or.inr z.2.2.1, Or.inr z.2.2.2.1⟩, z.2.2.2.2.1, Or.inr z.2.2.2.2.2.1, Or.inr z.2.2.2.2.2.2⟩⟩
    · rcases z.1.2.2.2.1 with y | y
      · exact absurd y (by decide)
      · exact y
    · rcases z.1.2.2.2.2 with y | y
      · exact absurd y (by decide)
      · exact y
    · exact z.2.2.1.resolve_left hg
    · exact z.2.2.2.resolve_left hi
  · rw [decide_eq_false (tk_ne T t f p (l := [a, b, c, d, e, g, i]) l), decide_eq_false]
    exact fun z => l ((ninj (j := 7) (by omega) (by decide)).mp z.1.1)
end EQ3
