section MG60
/-! ===== words speak in order ===== -/
abbrev SQ : Type := Int32 × (Nat → Nat → Bool) × (Nat → Nat → Bool)
section EQN
variable (g : Nat → Nat → Int32) (u : Int32)
def sp1 (q : SQ) (w : Nat) : SQ := if bt q.1 w = false ∧ bt u w = false ∧ (fowg g w &&& (q.1 ^^^ (-1))) = 0 then (q.1 ||| ((1 : Int32) <<< (nI w &&& 31)), upb q.2.1 w (sayY g q.2.1 q.2.2 w), upb q.2.2 w (sayN g q.2.1 q.2.2 w)) else q
def spr (q : SQ) : Nat → SQ
  | 0 => q
  | w + 1 => sp1 g u (spr q w) w
def spR (q : SQ) (W : Nat) : Nat → SQ
  | 0 => q
  | n + 1 => spr g u (spR q W n) W
end EQN
/-- what holds while words speak -/
def SI (q : SQ) : Prop := (∀ v c, ¬ (v < 32 ∧ bt q.1 v = true) → q.2.1 v c = false ∧ q.2.2 v c = false) ∧ ∀ v c, ¬ (q.2.1 v c = true ∧ q.2.2 v c = true)
def sq0 : SQ := (0, (fun _ _ => false), fun _ _ => false)
theorem si_0 : SI sq0 := ⟨fun _ _ _ => ⟨rfl, rfl⟩, fun _ _ h => absurd (show false = true from h.1) (by decide)⟩
theorem b_not (x : Int32) {v : Nat} (hv : v < 32) : bt (x ^^^ (-1)) v = !bt x v := by
  have e : bt (-1) v = true := by
    have : ∀ v, v < 32 → bt (-1) v = true := by decide +kernel
    exact this v hv
  have : bt (x ^^^ (-1)) v = (bt x v ^^ bt (-1) v) := by unfold bt; rw [Int32.toBitVec_xor, BitVec.getLsbD_xor]
  rw [this, e, Bool.xor_true]
theorem an0 {a b : Int32} : (a &&& (b ^^^ (-1))) = 0 ↔ ∀ x, x < 32 → bt a x = true → bt b x = true := by
  constructor
  · intro h x hx e
    by_cases z : bt b x = true
    · exact z
    · exfalso
      refine absurd h (nz_b.mpr ⟨x, hx, ?_⟩)
      have zf : bt b x = false := by simpa using z
      rw [b_and, b_not b hx, e, zf]; rfl
  · intro h
    by_cases z : (a &&& (b ^^^ (-1))) = 0
    · exact z
    · exfalso
      obtain ⟨x, hx, e⟩ := nz_b.mp z
      rw [b_and, Bool.and_eq_true, b_not b hx] at e
      rw [h x hx e.1] at e
      exact absurd e.2 (by decide)
theorem say_x {g : Nat → Nat → Int32} {Y Z : Nat → Nat → Bool} (xc : ∀ v c, ¬ (Y v c = true ∧ Z v c = true)) (w c : Nat) : ¬ (sayY g Y Z w c = true ∧ sayN g Y Z w c = true) := by
  unfold sayY sayN
  by_cases k4 : g w 0 = 4
  · rw [if_pos k4, if_pos k4]
    cases csw g w c <;> cases lky g Y w <;> cases lky g Z w <;> decide
  · rw [if_neg k4, if_neg k4]
    by_cases k05 : g w 0 = 0 ∨ g w 0 = 5
    · rw [if_pos k05, if_pos k05]
      rintro ⟨h1, h2⟩
      rw [Bool.and_eq_true, decide_eq_true_eq] at h1 h2
      exact h2.2 h1.2
    · rw [if_neg k05, if_neg k05]
      by_cases k2 : g w 0 = 2
      · rw [if_pos k2, if_pos k2]; exact fun h => xc _ _ ⟨h.2, h.1⟩
      · rw [if_neg k2, if_neg k2]; exact xc _ _
theorem si_sp1 {g : Nat → Nat → Int32} {u : Int32} {q : SQ} {w : Nat} (hw : w < 32) (h : SI q) : SI (sp1 g u q w) := by
  unfold sp1
  by_cases c : bt q.1 w = false ∧ bt u w = false ∧ (fowg g w &&& (q.1 ^^^ (-1))) = 0
  · rw [if_pos c]
    refine ⟨fun v c' n => ?_, fun v c' => ?_⟩
    · have nv : v ≠ w := fun e => n (by rw [e]; exact ⟨hw, (bt_or1 _ hw hw).mpr (Or.inr rfl)⟩)
      show upb q.2.1 w (sayY g q.2.1 q.2.2 w) v c' = false ∧ upb q.2.2 w (sayN g q.2.1 q.2.2 w) v c' = false
      unfold upb
      rw [if_neg nv, if_neg nv]
      exact h.1 v c' (fun y => n ⟨y.1, (bt_or1 _ hw y.1).mpr (Or.inl y.2)⟩)
    · show ¬ (upb q.2.1 w (sayY g q.2.1 q.2.2 w) v c' = true ∧ upb q.2.2 w (sayN g q.2.1 q.2.2 w) v c' = true)
      unfold upb
      by_cases e : v = w
      · rw [if_pos e, if_pos e]; exact say_x h.2 w c'
      · rw [if_neg e, if_neg e]; exact h.2 v c'
  · rw [if_neg c]; exact h
theorem si_spr {g : Nat → Nat → Int32} {u : Int32} {q : SQ} (h : SI q) : ∀ w, w ≤ 32 → SI (spr g u q w)
  | 0, _ => h
  | w + 1, hw => by rw [spr]; exact si_sp1 (by omega) (si_spr h w (by omega))
theorem si_spR {g : Nat → Nat → Int32} {u : Int32} {q : SQ} {W : Nat} (hW : W ≤ 32) (h : SI q) : ∀ n, SI (spR g u q W n)
  | 0 => h
  | n + 1 => by rw [spR]; exact si_spr (si_spR hW h n) W hW
/-- what speaking may change -/
def F5 (r : Nat) (M N : Mm) : Prop := gr N = gr M ∧ gl N = gl M ∧ (∀ a, a ≠ r + 205 → a ≠ r + 269 → (∀ w, w < 24 → a ≠ r + 776 + 64 * w) → gi N a = gi M a) ∧ ∀ w, w < 24 → ∀ k, k ≠ 10 → gi N (r + 776 + 64 * w) k = gi M (r + 776 + 64 * w) k
theorem f5_tr {r : Nat} {M N O : Mm} (f : F5 r M N) (g : F5 r N O) : F5 r M O := ⟨g.1.trans f.1, g.2.1.trans f.2.1, fun a h1 h2 h3 => (g.2.2.1 a h1 h2 h3).trans (f.2.2.1 a h1 h2 h3), fun w hw k hk => (g.2.2.2 w hw k hk).trans (f.2.2.2 w hw k hk)⟩
theorem f5_4 {r w : Nat} {M N : Mm} (hw : w < 24) (f : F4 r w M N) : F5 r M N := by
  refine ⟨f.1, f.2.1, fun a h1 h2 h3 => f.2.2.1 a h1 h2 (h3 w hw), fun v hv k hk => ?_⟩
  by_cases e : v = w
  · subst e; exact f.2.2.2 k hk
  · rw [f.2.2.1 _ (by omega) (by omega) (by omega)]
theorem f5_10 {r w : Nat} {M : Mm} {v : Int32} (hw : w < 24) : F5 r M (si M (r + 776 + 64 * w) 10 v) := by
  refine ⟨rfl, rfl, fun a h1 h2 h3 => gi_ne (h3 w hw), fun x hx k hk => ?_⟩
  rw [gi_si, if_neg (fun e => hk e.2)]
theorem f5_st {r : Nat} {M N : Mm} (f : F5 r M N) : ST r M N := by
  obtain ⟨f1, f2, f3, f4⟩ := f
  refine ⟨f1, f2, by rw [f3 r (by omega) (by omega) (fun w hw => by omega)], fun v hv i hi => f4 v hv i (by omega), fun a ha => f3 a (by omega) (by omega) (fun w hw => by omega), f3 _ (by omega) (by omega) (fun w hw => by omega)⟩
/-- a word comes to the end of its following in n steps -/
def chs (g : Nat → Nat → Int32) : Nat → Nat → Prop
  | 0, w => g w 6 = -4
  | n + 1, w => ∃ f, f < 24 ∧ g w 6 = nI f ∧ chs g n f
theorem chs_u {g : Nat → Nat → Int32} : ∀ n m w, chs g n w → chs g m w → n = m
  | 0, 0, _, _, _ => rfl
  | 0, m + 1, w, h, ⟨f, hf, e, _⟩ => absurd (e.symm.trans h) (nI4 (by omega))
  | n + 1, 0, w, ⟨f, hf, e, _⟩, h => absurd (e.symm.trans h) (nI4 (by omega))
  | n + 1, m + 1, w, ⟨f, hf, e, a⟩, ⟨f', hf', e', b⟩ => by
    have : f = f' := (ninj (by omega) (by omega)).mp (e.symm.trans e')
    subst this
    rw [chs_u n m f a b]
/-- the steps of the words that have spoken; the others have none yet -/
def T10 (N : Mm) (r : Nat) (g : Nat → Nat → Int32) (D : Nat) (q : Int32) : Prop := ∀ w, w < D → (bt q w = true → ∃ n, chs g n w ∧ gi N (r + 776 + 64 * w) 10 = nI n) ∧ (bt q w = false → gi N (r + 776 + 64 * w) 10 = 0)
/-- a word speaks: its steps -/
theorem t10_s {M N : Mm} {r D w : Nat} {g : Nat → Nat → Int32} {q : Int32} (hD : D ≤ 24) (hw : w < D) (rs : RS6 g D w) (f : F4 r w M N) (s : S10 M N r g w) (nq : bt q w = false) (fo : (fowg g w &&& (q ^^^ (-1))) = 0) (t : T10 M r g D q) : T10 N r g D (q ||| ((1 : Int32) <<< (nI w &&& 31))) := by
  intro v hv
  by_cases e : v = w
  · subst e
    have y : bt (q ||| ((1 : Int32) <<< (nI v &&& 31))) v = true := (bt_or1 _ (by omega) (by omega)).mpr (Or.inr rfl)
    refine ⟨fun _ => ?_, fun z => absurd (y.symm.trans z) (by decide)⟩
    rcases rs.1 with ⟨-, e6⟩ | ⟨nk, x, hx, -, e6⟩
    · exact ⟨0, e6, by rw [s.1 e6]; exact (t v hv).2 nq⟩
    · have fb : bt (fowg g v) x = true := by
        unfold fowg
        rw [if_neg (fun z => nk (Or.inr (Or.inl z))), e6, if_neg (nI4 (by omega)), b_one x (by omega) x (by omega), decide_eq_true_eq]
      obtain ⟨n, a, b⟩ := (t x hx).1 (an0.mp fo x (by omega) fb)
      exact ⟨n + 1, ⟨x, by omega, e6, a⟩, by rw [s.2 x (by omega) e6, b, nI_s]⟩
  · have g1 : gi N (r + 776 + 64 * v) 10 = gi M (r + 776 + 64 * v) 10 := by rw [f.2.2.1 _ (by omega) (by omega) (by omega)]
    rw [g1]
    refine ⟨fun z => (t v hv).1 ?_, fun z => (t v hv).2 ?_⟩
    · rcases (bt_or1 _ (by omega) (by omega)).mp z with z | z
      · exact z
      · exact absurd z e
    · cases y : bt q v
      · rfl
      · rw [(bt_or1 _ (by omega) (by omega)).mpr (Or.inl y)] at z
        exact absurd z (by decide)
/-- the steps when all is said -/
def E10 (N : Mm) (r : Nat) (g : Nat → Nat → Int32) (D : Nat) (u q : Int32) : Prop := ∀ w, w < D → (bt u w = true → gi N (r + 776 + 64 * w) 10 = -4) ∧ (bt u w = false → bt q w = true → ∃ n, chs g n w ∧ gi N (r + 776 + 64 * w) 10 = nI n)
section EQN2
variable {M : Mm} {r D : Nat}
theorem eS_speakInOrder {K : Mm → Prop} {g : Nat → Nat → Int32} {u : Int32} (l : LD M r D) (hu : gi M r 13 = u) (hf : ∀ w, w < D → gi M (r + 651) w = fowg g w) (eg : ∀ w, w < D → ∀ i, i < 7 → gi M (r + 776 + 64 * w) i = g w i) (rs : ∀ w, w < D → RS6 g D w) (us : ∀ w, w < D → bt u w = false → ∀ v, v < 32 → bt (fowg g w) v = true → bt u v = false) (z10 : ∀ w, w < D → gi M (r + 776 + 64 * w) 10 = 0)
    (h : ∀ N, F5 r M N → CY N r (spR g u sq0 D D).2.1 (spR g u sq0 D D).2.2 → E10 N r g D u (spR g u sq0 D D).1 → K N) : CV mLi_speakInOrder [.ref r] M K := by
  have hl := l.1
  have hD := l.2.2.1
  refine call_of rfl (Nat.le_of_ble_eq_true rfl) rfl (vLi_speakInOrder_0 hl.1 (lr3 hl) (sJr_fill (lrk hl 205 14 rfl (by decide)) ak_14 (by decide) (vLi_speakInOrder_8 hl.1 (lr4 hl) (sJr_fill (lrk hl 269 14 rfl (by decide)) ak_14 (by decide) (vLi_speakInOrder_16 hl.1 ?_)))))
  generalize eA : fl (fl M (r + 205) 64 0) (r + 269) 64 0 = A
  have f0 : F5 r M A := by
    rw [← eA]
    refine ⟨rfl, rfl, fun a h1 h2 h3 => ?_, fun w hw k hk => ?_⟩
    · funext k; rw [flR _ _ _ _ _ _ h2, flR _ _ _ _ _ _ h1]
    · rw [flR _ _ _ _ _ _ (by omega), flR _ _ _ _ _ _ (by omega)]
  have c0 : CY A r sq0.2.1 sq0.2.2 := by
    rw [← eA]
    intro c hc v hv
    rw [flR _ _ _ _ _ _ (by omega), gi_fl, if_pos ⟨rfl, hc⟩, gi_fl, if_pos ⟨rfl, hc⟩, b_0]
    exact ⟨rfl, rfl⟩
  have uA : gi A r 13 = u := by rw [f0.2.2.1 r (by omega) (by omega) (fun w hw => by omega)]; exact hu
  rw [uA]
  have t0 : T10 A r g D sq0.1 := by
    intro w hw
    have e : gi A (r + 776 + 64 * w) 10 = 0 := by
      rw [← eA, flR _ _ _ _ _ _ (by omega), flR _ _ _ _ _ _ (by omega)]; exact z10 w hw
    refine ⟨fun z => ?_, fun _ => e⟩
    have z' : bt 0 w = true := z
    rw [b_0] at z'
    exact absurd z' (by decide)
  have k2 : ∀ N, F5 r M N → CY N r (spR g u sq0 D D).2.1 (spR g u sq0 D D).2.2 → T10 N r g D (spR g u sq0 D D).1 → X mLi_speakInOrder 87 [(0, .ref r), (2, .int 0)] [] N (mC mLi_speakInOrder, mS mLi_speakInOrder) (QV K) := by
    intro N fN cN tN
    refine lp D (P := fun i => ∀ N, F5 r M N → CY N r (spR g u sq0 D D).2.1 (spR g u sq0 D D).2.2 → (∀ w, w < D → (w < i → bt u w = true → gi N (r + 776 + 64 * w) 10 = -4) ∧ (bt u w = false → bt (spR g u sq0 D D).1 w = true → ∃ n, chs g n w ∧ gi N (r + 776 + 64 * w) 10 = nI n)) → X mLi_speakInOrder 87 [(0, .ref r), (2, .int (nI i))] [] N (mC mLi_speakInOrder, mS mLi_speakInOrder) (QV K)) (fun i hi ih N fN cN tN => ?_) (fun N fN cN tN => ?_) N fN cN (fun w hw => ⟨fun z => absurd z (by omega), fun _ z => (tN w hw).1 z⟩)
    · have lN := ld_st (f5_st fN) l
      have uN : gi N r 13 = u := by rw [fN.2.2.1 r (by omega) (by omega) (fun w hw => by omega)]; exact hu
      refine vLi_speakInOrder_87 hl.1 ⟨fun q => absurd q (ld_le lN hi), fun _ => sC_holds (vLi_speakInOrder_103 hl.1 (lr0 lN.1) ⟨fun q => ?_, fun q => ⟨ld_v lN hi, r + 776 + 64 * i, ld_gw lN (by omega), ?_⟩⟩)⟩
      · rw [uN] at q
        have nu : ¬ bt u i = true := fun z => by
          rw [if_pos ((bitu _ (by omega)).mpr z)] at q
          exact absurd q (by decide)
        rw [nI_s]
        refine ih N fN cN (fun w hw => ⟨fun z y => ?_, (tN w hw).2⟩)
        by_cases e : w = i
        · subst e; exact absurd y nu
        · exact (tN w hw).1 (by omega) y
      · rw [uN] at q
        have yu : bt u i = true := by
          by_cases z : bt u i = true
          · exact z
          · exfalso
            rw [if_neg (fun y => z ((bitu _ (by omega)).mp y))] at q
            exact q rfl
        rw [nI_s]
        refine ih _ (f5_tr fN (f5_10 (by omega))) (fun c hc v hv => ?_) (fun w hw => ?_)
        · rw [giR _ _ _ _ _ _ (by omega), giR _ _ _ _ _ _ (by omega)]; exact cN c hc v hv
        · by_cases e : w = i
          · subst e
            rw [gxs, if_pos rfl]
            exact ⟨fun _ _ => rfl, fun z => absurd (yu.symm.trans z) (by decide)⟩
          · rw [giR _ _ _ _ _ _ (by omega)]
            exact ⟨fun z y => (tN w hw).1 (by omega) y, (tN w hw).2⟩
    · have lN := ld_st (f5_st fN) l
      exact vLi_speakInOrder_87 hl.1 ⟨fun _ => h N fN cN (fun w hw => ⟨(tN w hw).1 hw, (tN w hw).2⟩), fun q => absurd (ld_se lN) q⟩
  refine lp D (P := fun n => ∀ N s, F5 r M N → (∀ x, x < 32 → bt s x = (bt (spR g u sq0 D n).1 x || bt u x)) → CY N r (spR g u sq0 D n).2.1 (spR g u sq0 D n).2.2 → T10 N r g D (spR g u sq0 D n).1 → X mLi_speakInOrder 23 [(0, .ref r), (1, .int s), (2, .int (nI n))] [] N (mC mLi_speakInOrder, mS mLi_speakInOrder) (QV K)) (fun n hn ih N s fN sN cN tN => ?_) (fun N s fN sN cN tN => ?_) A u f0 (fun x hx => by show bt u x = (bt 0 x || bt u x); rw [b_0, Bool.false_or]) c0 t0
  · have lN := ld_st (f5_st fN) l
    have si0 : SI (spR g u sq0 D n) := si_spR (by omega) si_0 n
    refine vLi_speakInOrder_23 hl.1 ⟨fun q => absurd q (ld_le lN hn), fun _ => ?_⟩
    have ih' : ∀ N s, F5 r M N → (∀ x, x < 32 → bt s x = (bt (spr g u (spR g u sq0 D n) D).1 x || bt u x)) → CY N r (spr g u (spR g u sq0 D n) D).2.1 (spr g u (spR g u sq0 D n) D).2.2 → T10 N r g D (spr g u (spR g u sq0 D n) D).1 → X mLi_speakInOrder 23 [(0, .ref r), (1, .int s), (2, .int (nI (n + 1)))] [] N (mC mLi_speakInOrder, mS mLi_speakInOrder) (QV K) := fun N s a b c d => ih N s a b c d
    generalize spR g u sq0 D n = q0 at sN cN si0 ih' tN
    refine lp D (P := fun w => ∀ N s, F5 r M N → (∀ x, x < 32 → bt s x = (bt (spr g u q0 w).1 x || bt u x)) → CY N r (spr g u q0 w).2.1 (spr g u q0 w).2.2 → T10 N r g D (spr g u q0 w).1 → X mLi_speakInOrder 33 [(0, .ref r), (1, .int s), (2, .int (nI n)), (3, .int (nI w))] [] N (mC mLi_speakInOrder, mS mLi_speakInOrder) (QV K)) (fun w hw ih2 N s fN sN cN tN => ?_) (fun N s fN sN cN tN => ?_) N s fN sN cN tN
    · have lN := ld_st (f5_st fN) l
      have cw : (nI w).toNatClampNeg = w := ncl (by omega)
      have siw : SI (spr g u q0 w) := si_spr si0 w (by omega)
      have fo : gi N (r + 651) w = fowg g w := by rw [fN.2.2.1 _ (by omega) (by omega) (fun x hx => by omega)]; exact hf w hw
      have ihw : ∀ N s, F5 r M N → (∀ x, x < 32 → bt s x = (bt (sp1 g u (spr g u q0 w) w).1 x || bt u x)) → CY N r (sp1 g u (spr g u q0 w) w).2.1 (sp1 g u (spr g u q0 w) w).2.2 → T10 N r g D (sp1 g u (spr g u q0 w) w).1 → X mLi_speakInOrder 33 [(0, .ref r), (1, .int s), (2, .int (nI n)), (3, .int (nI (w + 1)))] [] N (mC mLi_speakInOrder, mS mLi_speakInOrder) (QV K) := fun N s a b c d => ih2 N s a b c d
      generalize spr g u q0 w = q at sN cN siw ihw tN
      have cond : (bt s w = false ∧ (fowg g w &&& (s ^^^ (-1))) = 0) ↔ (bt q.1 w = false ∧ bt u w = false ∧ (fowg g w &&& (q.1 ^^^ (-1))) = 0) := by
        rw [an0, an0, sN w (by omega), Bool.or_eq_false_iff]
        constructor
        · rintro ⟨⟨a1, a2⟩, a3⟩
          refine ⟨a1, a2, fun x hx e => ?_⟩
          have := a3 x hx e
          rw [sN x hx, us w hw a2 x hx e, Bool.or_false] at this
          exact this
        · rintro ⟨a1, a2, a3⟩
          refine ⟨⟨a1, a2⟩, fun x hx e => ?_⟩
          rw [sN x hx, a3 x hx e, Bool.true_or]
      have hb : ∀ {z : Int32}, z = (if ((ushr s (nI w)) &&& 1) = 1 then 1 else 0) → (z = 0 ↔ bt s w = false) := by
        intro z ez
        rw [ez]
        by_cases y : bt s w = true
        · rw [if_pos ((bitu _ (by omega)).mpr y), y]; decide
        · have yf : bt s w = false := by simpa using y
          rw [if_neg (fun x => y ((bitu _ (by omega)).mp x)), yf]; decide
      refine vLi_speakInOrder_33 hl.1 ⟨fun q => absurd q (ld_le lN hw), fun _ => sC_holds (vLi_speakInOrder_46 hl.1 (lr14 lN.1) ⟨fun _ => ld_v lN hw, fun p => ?_, fun p => ?_⟩)⟩
      · rw [cw, fo, hb rfl] at p
        have nc : ¬ (bt q.1 w = false ∧ bt u w = false ∧ (fowg g w &&& (q.1 ^^^ (-1))) = 0) := fun z => by
          have z' := cond.mpr z
          rcases p with p | p
          · exact p z'.1
          · exact p.2 z'.2
        have e1 : sp1 g u q w = q := by unfold sp1; rw [if_neg nc]
        rw [e1] at ihw
        rw [nI_s]; exact ihw N s fN sN cN tN
      · rw [cw, fo, hb rfl] at p
        have yc := cond.mp p
        have e1 : sp1 g u q w = (q.1 ||| ((1 : Int32) <<< (nI w &&& 31)), upb q.2.1 w (sayY g q.2.1 q.2.2 w), upb q.2.2 w (sayN g q.2.1 q.2.2 w)) := by unfold sp1; rw [if_pos yc]
        rw [e1] at ihw
        refine eS_speak lN hw (fun i hi => by rw [fN.2.2.2 w (by omega) i (by omega)]; exact eg w hw i hi) (rs w hw) fo cN (fun v hv e k4 => ?_) (fun c => siw.1 w c (fun y => by rw [yc.1] at y; exact absurd y.2 (by decide))) siw.2 (fun O fO cO sO => vLi_speakInOrder_67 ?_)
        · unfold fowg at e
          rw [if_pos k4] at e
          exact ((fosg_b g w w (by omega) v hv).mp e).1
        · rw [nI_s]
          refine ihw O _ (f5_tr fN (f5_4 (by omega) fO)) (fun x hx => ?_) cO (t10_s hD hw (rs w hw) fO sO yc.1 yc.2.2 tN)
          show bt (s ||| ((1 : Int32) <<< (nI w &&& 31))) x = (bt (q.1 ||| ((1 : Int32) <<< (nI w &&& 31))) x || bt u x)
          rw [b_or, b_or, sN x hx]
          cases bt q.1 x <;> cases bt u x <;> cases bt ((1 : Int32) <<< (nI w &&& 31)) x <;> rfl
    · have lN := ld_st (f5_st fN) l
      refine vLi_speakInOrder_33 hl.1 ⟨fun _ => ?_, fun q => absurd (ld_se lN) q⟩
      rw [nI_s]; exact ih' N s fN sN cN tN
  · have lN := ld_st (f5_st fN) l
    exact vLi_speakInOrder_23 hl.1 ⟨fun _ => k2 N fN cN tN, fun q => absurd (ld_se lN) q⟩
end EQN2
end MG60
section MG61
/-! ===== the reference: what words say, as the pure table has it ===== -/
def lb (x : Int64) (c : Nat) : Bool := x.toBitVec.getLsbD c
theorem l_or (x y : Int64) (c : Nat) : lb (x ||| y) c = (lb x c || lb y c) := by unfold lb; rw [Int64.toBitVec_or, BitVec.getLsbD_or]
theorem l_and (x y : Int64) (c : Nat) : lb (x &&& y) c = (lb x c && lb y c) := by unfold lb; rw [Int64.toBitVec_and, BitVec.getLsbD_and]
theorem l_0 (c : Nat) : lb 0 c = false := BitVec.getLsbD_zero
theorem l_ext {x y : Int64} (h : ∀ c, c < 64 → lb x c = lb y c) : x = y := Int64.toBitVec_inj.mp (BitVec.eq_of_getLsbD_eq (fun i hi => h i hi))
theorem l_1 : ∀ c, c < 64 → lb 1 c = decide (c = 0) := by decide +kernel
theorem l_s64 : ∀ n, n < 64 → (((nI n).toInt64 &&& 63).toBitVec.smod 64).toNat = n := by decide +kernel
theorem l_one : ∀ n, n < 64 → ∀ c, c < 64 → lb ((1 : Int64) <<< ((nI n).toInt64 &&& 63)) c = decide (c = n) := by decide +kernel
theorem l_a1 (y : Int64) : (y &&& 1) = 1 ↔ lb y 0 = true := by
  constructor
  · intro h
    have := l_and y 1 0
    rw [h] at this
    have e : lb 1 0 = true := by decide +kernel
    rw [e, Bool.and_true] at this
    exact this.symm
  · intro h
    refine l_ext (fun i hi => ?_)
    rw [l_and, l_1 i hi]
    by_cases e : i = 0
    · subst e; rw [h]; rfl
    · rw [decide_eq_false e, Bool.and_false]
theorem l_shr (n : Nat) (hn : n < 64) (x : Int64) : lb (x >>> ((nI n).toInt64 &&& 63)) 0 = lb x n := by
  unfold lb
  rw [Int64.toBitVec_shiftRight]
  show (x.toBitVec.sshiftRight (((nI n).toInt64 &&& 63).toBitVec.smod 64).toNat).getLsbD 0 = _
  rw [l_s64 n hn, BitVec.getLsbD_sshiftRight]
  simp [hn]
/-- a case's bit as the reference looks at it -/
theorem lbit (x : Int64) {c : Nat} (h : c < 64) : ((x >>> ((nI c).toInt64 &&& 63)) &&& 1) = 1 ↔ lb x c = true := by rw [l_a1, l_shr c h]
theorem b_a0 (y : Int32) : (y &&& 1) = 0 ↔ bt y 0 = false := by
  constructor
  · intro h
    have := b_and y 1 0
    rw [h, b_0] at this
    have e : bt 1 0 = true := by decide +kernel
    rw [e, Bool.and_true] at this
    exact this.symm
  · intro h
    refine b_ext (fun i hi => ?_)
    rw [b_and, b_1 i hi, b_0]
    by_cases e : i = 0
    · subst e; rw [h]; rfl
    · rw [decide_eq_false e, Bool.and_false]
theorem bit0 (x : Int32) {m : Nat} (h : m < 32) : ((x >>> (nI m &&& 31)) &&& 1) = 0 ↔ bt x m = false := by
  rw [b_a0, b_sshr m h x (by decide), if_pos (by omega), Nat.add_zero]
theorem cwi_b (m n : Int32) : ∀ k, k ≤ 64 → ∀ c, c < 64 → (lb (cwi m n k) c = true ↔ c < k ∧ (nI c &&& m) = m ∧ (nI c &&& n) = 0)
  | 0, _, c, _ => by rw [cwi, l_0]; simp
  | k + 1, hk, c, hc => by
    rw [cwi, l_or, Bool.or_eq_true, cwi_b m n k (by omega) c hc]
    by_cases q : (nI k &&& m) = m ∧ (nI k &&& n) = 0
    · rw [if_pos q, l_one k (by omega) c hc, decide_eq_true_eq]
      constructor
      · rintro (z | rfl)
        · exact ⟨by omega, z.2⟩
        · exact ⟨by omega, q⟩
      · rintro ⟨z1, z2⟩
        by_cases e : c = k
        · exact Or.inr e
        · exact Or.inl ⟨by omega, z2⟩
    · rw [if_neg q, l_0]
      constructor
      · rintro (z | z)
        · exact ⟨by omega, z.2⟩
        · exact absurd z (by decide)
      · rintro ⟨z1, z2⟩
        by_cases e : c = k
        · subst e; exact absurd z2 q
        · exact Or.inl ⟨by omega, z2⟩
/-- what words say, as the reference has it -/
def RYZ (N : Mm) (W : Nat) (Y Z : Nat → Nat → Bool) : Prop := ∀ v, v < W → ∀ c, c < 64 → lb (gl N 6874 v) c = Y v c ∧ lb (gl N 6938 v) c = Z v c
section EQO
variable {N : Mm} {W : Nat} {g : Nat → Nat → Int32}
theorem swl_b {Y Z : Nat → Nat → Bool} {w m : Nat} (hg : ∀ i, i < 7 → wd N w i = g w i) (hf : fow N w = fowg g w) (hm : m < 64) (em : g w 3 = nI m) (ry : RYZ N W Y Z) (hw : w < W) (hW : W ≤ 24) : ∀ k, k ≤ w → (¬ (swl N w k).1 = 0 ↔ anyb (fun v => bt (fowg g w) v && Y v m) k = true) ∧ (¬ (swl N w k).2 = 0 ↔ anyb (fun v => bt (fowg g w) v && Z v m) k = true)
  | 0, _ => by
    rw [swl, anyb, anyb]; exact ⟨⟨fun h => absurd rfl h, fun h => absurd h (by decide)⟩, ⟨fun h => absurd rfl h, fun h => absurd h (by decide)⟩⟩
  | k + 1, hk => by
    obtain ⟨i1, i2⟩ := swl_b hg hf hm em ry hw hW k (by omega)
    obtain ⟨r1, r2⟩ := ry k (by omega) m hm
    have sb : ∀ x, ¬ swb x (wd N w 3) = 0 ↔ lb x m = true := by
      intro x
      unfold swb
      rw [hg 3 (by decide), em]
      by_cases q : lb x m = true
      · rw [if_pos ((lbit _ hm).mpr q), q]; decide
      · rw [if_neg (fun z => q ((lbit _ hm).mp z))]
        exact ⟨fun z => absurd rfl z, fun z => absurd z q⟩
    rw [swl, hf, anyb, anyb, Bool.or_eq_true, Bool.or_eq_true, Bool.and_eq_true, Bool.and_eq_true, ← i1, ← i2]
    by_cases q : bt (fowg g w) k = true
    · rw [if_pos ((bit1 _ (by omega)).mpr q), ← r1, ← r2, ← sb, ← sb]
      refine ⟨?_, ?_⟩
      · show ¬ (if (swl N w k).1 = 0 then swb (gl N 6874 k) (wd N w 3) else 1) = 0 ↔ _
        by_cases z : (swl N w k).1 = 0
        · rw [if_pos z]; exact ⟨fun y => Or.inr ⟨q, y⟩, fun y => y.elim (fun y => absurd z y) (fun y => y.2)⟩
        · rw [if_neg z]; exact ⟨fun _ => Or.inl z, fun _ => by decide⟩
      · show ¬ (if (swl N w k).2 = 0 then swb (gl N 6938 k) (wd N w 3) else 1) = 0 ↔ _
        by_cases z : (swl N w k).2 = 0
        · rw [if_pos z]; exact ⟨fun y => Or.inr ⟨q, y⟩, fun y => y.elim (fun y => absurd z y) (fun y => y.2)⟩
        · rw [if_neg z]; exact ⟨fun _ => Or.inl z, fun _ => by decide⟩
    · rw [if_neg (fun z => q ((bit1 _ (by omega)).mp z))]
      exact ⟨⟨Or.inl, fun y => y.elim id (fun y => absurd y.1 q)⟩, ⟨Or.inl, fun y => y.elim id (fun y => absurd y.1 q)⟩⟩
theorem swv_b {Y Z : Nat → Nat → Bool} {w c : Nat} (hg : ∀ i, i < 7 → wd N w i = g w i) (hf : fow N w = fowg g w) (rs : RS6 g W w) (n4 : g w 0 = 4 → g w 4 = 0) (ry : RYZ N W Y Z) (hw : w < W) (hW : W ≤ 24) (hc : c < 64) : lb (swv N w).1 c = sayY g Y Z w c ∧ lb (swv N w).2 c = sayN g Y Z w c := by
  obtain ⟨r6, ⟨m, hm, em⟩, r5⟩ := rs
  have c3 : (g w 3).toNatClampNeg = m := by rw [em]; exact ncl (by omega)
  have cw : ∀ n, lb (cwi (g w 3) n 64) c = decide ((nI c &&& g w 3) = g w 3 ∧ (nI c &&& n) = 0) := by
    intro n
    rw [Bool.eq_iff_iff, cwi_b _ _ 64 (Nat.le_refl _) c hc, decide_eq_true_eq]
    exact ⟨fun h => h.2, fun h => ⟨hc, h⟩⟩
  unfold swv sayY sayN
  rw [hg 0 (by decide), hg 3 (by decide), hg 4 (by decide), hg 5 (by decide), hg 6 (by decide)]
  by_cases k05 : g w 0 = 0 ∨ g w 0 = 5
  · have k4 : ¬ g w 0 = 4 := fun z => by rw [z] at k05; exact absurd k05 (by decide)
    rw [if_pos k05, if_neg k4, if_pos k05, if_neg k4, if_pos k05]
    by_cases a : g w 5 = 1
    · have d1 : decide (g w 5 = 1) = true := decide_eq_true a
      have d2 : decide (¬ g w 5 = 1) = false := decide_eq_false (fun z => z a)
      rw [d1, d2, if_pos a, if_pos a, cw, l_0, Bool.and_true, Bool.and_false]
      exact ⟨rfl, rfl⟩
    · have d1 : decide (g w 5 = 1) = false := decide_eq_false a
      have d2 : decide (¬ g w 5 = 1) = true := decide_eq_true a
      rw [d1, d2, if_neg a, if_neg a, cw, l_0, Bool.and_true, Bool.and_false]
      exact ⟨rfl, rfl⟩
  · rw [if_neg k05]
    by_cases k4 : g w 0 = 4
    · rw [if_pos k4, if_pos k4, if_pos k4]
      obtain ⟨s1, s2⟩ := swl_b hg hf hm em ry hw hW w (Nat.le_refl w)
      have e1 : lky g Y w = anyb (fun v => bt (fowg g w) v && Y v m) w := by unfold lky; rw [c3]
      have e2 : lky g Z w = anyb (fun v => bt (fowg g w) v && Z v m) w := by unfold lky; rw [c3]
      rw [← e1] at s1
      rw [← e2] at s2
      have ec : csw g w c = decide ((nI c &&& g w 3) = g w 3 ∧ (nI c &&& 0) = 0) := by unfold csw; rw [n4 k4]
      show lb (if ¬ (swl N w w).1 = 0 ∧ (swl N w w).2 = 0 then cwi (g w 3) 0 64 else 0) c = _ ∧ lb (if ¬ (swl N w w).2 = 0 ∧ (swl N w w).1 = 0 then cwi (g w 3) 0 64 else 0) c = _
      by_cases a : (swl N w w).1 = 0
      · have la : lky g Y w = false := by
          by_cases z : lky g Y w = true
          · exact absurd a (s1.mpr z)
          · simpa using z
        by_cases b : (swl N w w).2 = 0
        · have lz : lky g Z w = false := by
            by_cases z : lky g Z w = true
            · exact absurd b (s2.mpr z)
            · simpa using z
          rw [if_neg (fun z => z.1 a), if_neg (fun z => z.1 b), l_0, la, lz]
          cases csw g w c <;> exact ⟨rfl, rfl⟩
        · rw [if_neg (fun z => z.1 a), if_pos ⟨b, a⟩, l_0, la, s2.mp b, cw, ec]
          cases decide ((nI c &&& g w 3) = g w 3 ∧ (nI c &&& 0) = 0) <;> exact ⟨rfl, rfl⟩
      · by_cases b : (swl N w w).2 = 0
        · have lz : lky g Z w = false := by
            by_cases z : lky g Z w = true
            · exact absurd b (s2.mpr z)
            · simpa using z
          rw [if_pos ⟨a, b⟩, if_neg (fun z => z.1 b), l_0, lz, s1.mp a, cw, ec]
          cases decide ((nI c &&& g w 3) = g w 3 ∧ (nI c &&& 0) = 0) <;> exact ⟨rfl, rfl⟩
        · rw [if_neg (fun z => b z.2), if_neg (fun z => a z.2), l_0, s1.mp a, s2.mp b]
          cases csw g w c <;> exact ⟨rfl, rfl⟩
    · rw [if_neg k4, if_neg k4, if_neg k4, if_neg k05, if_neg k05]
      obtain ⟨-, f, hf', fw, ef⟩ : ¬ (g w 0 = 0 ∨ g w 0 = 4 ∨ g w 0 = 5) ∧ ∃ f, f < W ∧ f ≠ w ∧ g w 6 = nI f := by
        rcases r6 with z | z
        · exfalso
          rcases z.1 with z | z | z
          · exact k05 (Or.inl z)
          · exact k4 z
          · exact k05 (Or.inr z)
        · exact z
      have c6 : (g w 6).toNatClampNeg = f := by rw [ef]; exact ncl (by omega)
      rw [c6]
      obtain ⟨r1, r2⟩ := ry f hf' c hc
      by_cases k2 : g w 0 = 2
      · rw [if_pos k2, if_pos k2, if_pos k2, if_pos k2]; exact ⟨r2, r1⟩
      · rw [if_neg k2, if_neg k2, if_neg k2, if_neg k2]; exact ⟨r1, r2⟩
end EQO
end MG61
section MG62
/-! ===== the reference: words speak in the same order; sound words follow sound words ===== -/
section EQP
variable {N : Mm} {W : Nat} {g : Nat → Nat → Int32} {u : Int32}
theorem fs1_b {q : Int32 × Mm} {q' : SQ} {w : Nat} (hw : w < W) (hW : W ≤ 24) (e1 : q.1 = q'.1) (ry : RYZ q.2 W q'.2.1 q'.2.2) (hg : ∀ i, i < 7 → wd q.2 w i = g w i) (hf : fow q.2 w = fowg g w) (hu : gi q.2 6027 24 = u) (rs : RS6 g W w) (n4 : g w 0 = 4 → g w 4 = 0) : (fs1 q w).1 = (sp1 g u q' w).1 ∧ RYZ (fs1 q w).2 W (sp1 g u q' w).2.1 (sp1 g u q' w).2.2 := by
  have cond : (((q.1 >>> (nI w &&& 31)) &&& 1) = 0 ∧ ¬ uns q.2 w ∧ (fow q.2 w &&& (q.1 ^^^ (-1))) = 0) ↔ (bt q'.1 w = false ∧ bt u w = false ∧ (fowg g w &&& (q'.1 ^^^ (-1))) = 0) := by
    unfold uns
    rw [hf, hu, e1, bit0 _ (show w < 32 by omega), bit1 _ (show w < 32 by omega)]
    refine ⟨fun z => ⟨z.1, by simpa using z.2.1, z.2.2⟩, fun z => ⟨z.1, by rw [z.2.1]; decide, z.2.2⟩⟩
  by_cases c : bt q'.1 w = false ∧ bt u w = false ∧ (fowg g w &&& (q'.1 ^^^ (-1))) = 0
  · have a1 : fs1 q w = (q.1 ||| ((1 : Int32) <<< (nI w &&& 31)), sl (sl q.2 6874 w (swv q.2 w).1) 6938 w (swv q.2 w).2) := by unfold fs1; rw [if_pos (cond.mpr c)]
    have a2 : sp1 g u q' w = (q'.1 ||| ((1 : Int32) <<< (nI w &&& 31)), upb q'.2.1 w (sayY g q'.2.1 q'.2.2 w), upb q'.2.2 w (sayN g q'.2.1 q'.2.2 w)) := by unfold sp1; rw [if_pos c]
    rw [a1, a2]
    refine ⟨by rw [e1], fun v hv c' hc' => ?_⟩
    show lb (gl (sl (sl q.2 6874 w (swv q.2 w).1) 6938 w (swv q.2 w).2) 6874 v) c' = upb q'.2.1 w (sayY g q'.2.1 q'.2.2 w) v c' ∧ lb (gl (sl (sl q.2 6874 w (swv q.2 w).1) 6938 w (swv q.2 w).2) 6938 v) c' = upb q'.2.2 w (sayN g q'.2.1 q'.2.2 w) v c'
    have d1 : gl (sl (sl q.2 6874 w (swv q.2 w).1) 6938 w (swv q.2 w).2) 6874 v = if v = w then (swv q.2 w).1 else gl q.2 6874 v := by
      rw [gl_sl, if_neg (fun z => absurd z.1 (by decide)), gl_sl]
      by_cases e : v = w
      · rw [if_pos ⟨rfl, e⟩, if_pos e]
      · rw [if_neg (fun z => e z.2), if_neg e]
    have d2 : gl (sl (sl q.2 6874 w (swv q.2 w).1) 6938 w (swv q.2 w).2) 6938 v = if v = w then (swv q.2 w).2 else gl q.2 6938 v := by
      rw [gl_sl]
      by_cases e : v = w
      · rw [if_pos ⟨rfl, e⟩, if_pos e]
      · rw [if_neg (fun z => e z.2), if_neg e, gl_sl, if_neg (fun z => absurd z.1 (by decide))]
    rw [d1, d2]
    unfold upb
    by_cases e : v = w
    · rw [if_pos e, if_pos e, if_pos e, if_pos e]
      exact swv_b hg hf rs n4 ry hw hW hc'
    · rw [if_neg e, if_neg e, if_neg e, if_neg e]
      exact ry v hv c' hc'
  · have a1 : fs1 q w = q := by unfold fs1; rw [if_neg (fun z => c (cond.mp z))]
    have a2 : sp1 g u q' w = q' := by unfold sp1; rw [if_neg c]
    rw [a1, a2]
    exact ⟨e1, ry⟩
theorem fsr_b {q : Int32 × Mm} {q' : SQ} (hW : W ≤ 24) (e1 : q.1 = q'.1) (ry : RYZ q.2 W q'.2.1 q'.2.2) (hg : ∀ w, w < W → ∀ i, i < 7 → wd q.2 w i = g w i) (hf : ∀ w, w < W → fow q.2 w = fowg g w) (hu : gi q.2 6027 24 = u) (rs : ∀ w, w < W → RS6 g W w) (n4 : ∀ w, w < W → g w 0 = 4 → g w 4 = 0) : ∀ w, w ≤ W → (fsr q w).1 = (spr g u q' w).1 ∧ RYZ (fsr q w).2 W (spr g u q' w).2.1 (spr g u q' w).2.2
  | 0, _ => ⟨e1, ry⟩
  | w + 1, hw => by
    obtain ⟨i1, i2⟩ := fsr_b hW e1 ry hg hf hu rs n4 w (by omega)
    have fs := fs_fsr q w
    rw [fsr, spr]
    generalize fsr q w = p at i1 i2 fs
    generalize spr g u q' w = p' at i1 i2
    have gw : ∀ v k, wd p.2 v k = wd q.2 v k := fun v k => by unfold wd; rw [fs.2.1]
    refine fs1_b (by omega) hW i1 i2 (fun i hi => by rw [gw]; exact hg w (by omega) i hi) ?_ (by rw [fs.2.1]; exact hu) (rs w (by omega)) (n4 w (by omega))
    rw [← hf w (by omega), fowg_e, fowg_e]
    have e : wd p.2 = wd q.2 := by funext v k; exact gw v k
    rw [e]
theorem fsR_b {q : Int32 × Mm} {q' : SQ} (hW : W ≤ 24) (e1 : q.1 = q'.1) (ry : RYZ q.2 W q'.2.1 q'.2.2) (hg : ∀ w, w < W → ∀ i, i < 7 → wd q.2 w i = g w i) (hf : ∀ w, w < W → fow q.2 w = fowg g w) (hu : gi q.2 6027 24 = u) (rs : ∀ w, w < W → RS6 g W w) (n4 : ∀ w, w < W → g w 0 = 4 → g w 4 = 0) : ∀ n, (fsR q W n).1 = (spR g u q' W n).1 ∧ RYZ (fsR q W n).2 W (spR g u q' W n).2.1 (spR g u q' W n).2.2
  | 0 => ⟨e1, ry⟩
  | n + 1 => by
    obtain ⟨i1, i2⟩ := fsR_b hW e1 ry hg hf hu rs n4 n
    have fs := fs_fsR q W n
    rw [fsR, spR]
    generalize fsR q W n = p at i1 i2 fs
    generalize spR g u q' W n = p' at i1 i2
    have gw : ∀ v k, wd p.2 v k = wd q.2 v k := fun v k => by unfold wd; rw [fs.2.1]
    have e : wd p.2 = wd q.2 := by funext v k; exact gw v k
    refine fsr_b hW i1 i2 (fun w hw i hi => by rw [gw]; exact hg w hw i hi) (fun w hw => ?_) (by rw [fs.2.1]; exact hu) rs n4 W (Nat.le_refl W)
    rw [← hf w hw, fowg_e, fowg_e, e]
/-- what findSaid leaves is the pure table -/
theorem fsM_b (hW : W ≤ 24) (hg : ∀ w, w < W → ∀ i, i < 7 → wd N w i = g w i) (hf : ∀ w, w < W → fow N w = fowg g w) (hu : gi N 6027 24 = u) (rs : ∀ w, w < W → RS6 g W w) (n4 : ∀ w, w < W → g w 0 = 4 → g w 4 = 0) : RYZ (fsM N W) W (spR g u sq0 W W).2.1 (spR g u sq0 W W).2.2 := by
  unfold fsM
  refine (fsR_b (q := (0, zl N W)) (q' := sq0) hW rfl (fun v hv c hc => ?_) hg (fun w hw => by rw [← hf w hw, fowg_e, fowg_e]; rfl) hu rs n4 W).2
  show lb (gl (zl N W) 6874 v) c = false ∧ lb (gl (zl N W) 6938 v) c = false
  rw [gl_zl, if_pos ⟨Or.inl rfl, hv⟩, gl_zl, if_pos ⟨Or.inr rfl, hv⟩, l_0]
  exact ⟨rfl, rfl⟩
/-- sound words follow sound words -/
theorem us_of {R : Nat → Int32} {D w v : Nat} (hD : D ≤ 24) (hw : w < D) (hs : bt (ug (wlr R D) (rg (wlr R D) D) D) w = false) (hv : v < 32) (h : bt (R w) v = true) : bt (ug (wlr R D) (rg (wlr R D) D) D) v = false := by
  have h1 : bt (wlr R D w) v = true := wlr_0 R D (by omega) w v h
  have cl : ∀ x, x < 32 → bt (wlr R D w) x = true → bt (rg (wlr R D) D) x = true → False := by
    intro x hx a b
    have : bt (ug (wlr R D) (rg (wlr R D) D) D) w = true := (ug_b _ _ D (by omega) w (by omega)).mpr (Or.inr ⟨hw, nz_b.mpr ⟨x, hx, by rw [b_and, a, b]; rfl⟩⟩)
    rw [hs] at this
    exact absurd this (by decide)
  by_cases z : bt (ug (wlr R D) (rg (wlr R D) D) D) v = true
  · exfalso
    rcases (ug_b _ _ D (by omega) v hv).mp z with a | ⟨hvD, a⟩
    · exact cl v hv h1 a
    · obtain ⟨x, hx, e⟩ := nz_b.mp a
      rw [b_and, Bool.and_eq_true] at e
      exact cl x hx (wlr_t R D (by omega) v hvD w h1 x e.1) e.2
  · simpa using z
end EQP
end MG62
section MG63
/-! ===== the class's settling: what it leaves ===== -/
section EQQ
variable {M : Mm} {r D : Nat}
/-- the words that are in a ring; that are unsound -/
def ring (g : Nat → Nat → Int32) (D : Nat) : Int32 := rg (wlr (fowg g) D) D
def unsd (g : Nat → Nat → Int32) (D : Nat) : Int32 := ug (wlr (fowg g) D) (ring g D) D
def said (g : Nat → Nat → Int32) (D : Nat) : SQ := spR g (unsd g D) sq0 D D
/-- a library, settled -/
def SE (N : Mm) (r : Nat) (g : Nat → Nat → Int32) (D : Nat) : Prop := SW N r g D ∧ gi N r 12 = ring g D ∧ gi N r 13 = unsd g D ∧ CY N r (said g D).2.1 (said g D).2.2
theorem sw_cg {N O : Mm} {g g' : Nat → Nat → Int32} (e : ∀ a, (a = r ∨ a = r + 460 ∨ a = r + 524) → ∀ k, k ≠ 12 → k ≠ 13 → gi O a k = gi N a k) (hg : ∀ w, w < D → ∀ i, i < 7 → g w i = g' w i) (h : SW N r g D) : SW O r g' D := by
  obtain ⟨h1, h2, h3, h4⟩ := h
  refine ⟨fun d hd v hv => ?_, fun b hb v hv => ?_, fun v hv => ?_, fun v hv => ?_⟩
  · rw [e _ (by omega) d (by omega) (by omega), h1 d hd v hv]
    exact ⟨fun z => ⟨z.1, by rw [← hg v z.1 1 (by decide)]; exact z.2⟩, fun z => ⟨z.1, by rw [hg v z.1 1 (by decide)]; exact z.2⟩⟩
  · rw [e _ (by omega) b (by omega) (by omega), h2 b hb v hv]
    exact ⟨fun z => ⟨z.1, by rw [← hg v z.1 2 (by decide)]; exact z.2⟩, fun z => ⟨z.1, by rw [hg v z.1 2 (by decide)]; exact z.2⟩⟩
  · rw [e r (by omega) 10 (by decide) (by decide), h3 v hv]
    exact ⟨fun z => ⟨z.1, by rw [← hg v z.1 0 (by decide)]; exact z.2⟩, fun z => ⟨z.1, by rw [hg v z.1 0 (by decide)]; exact z.2⟩⟩
  · rw [e r (by omega) 11 (by decide) (by decide), h4 v hv]
    exact ⟨fun z => ⟨z.1, by rw [← hg v z.1 0 (by decide)]; exact z.2⟩, fun z => ⟨z.1, by rw [hg v z.1 0 (by decide)]; exact z.2⟩⟩
end EQQ
end MG63
section MG64
/-! ===== rings and sayings depend on the told rows alone; what the reference keeps ===== -/
theorem wlr_cg {R R' : Nat → Int32} {D : Nat} (h : ∀ w, w < D → R w = R' w) : ∀ k, k ≤ D → ∀ w, w < D → wlr R k w = wlr R' k w
  | 0, _, w, hw => h w hw
  | k + 1, hk, w, hw => by
    have ih := wlr_cg h k (by omega)
    rw [wlr, wlr]
    unfold wrf
    rw [ih w hw, ih k (by omega)]
theorem rg_cg {R R' : Nat → Int32} : ∀ n, (∀ w, w < n → R w = R' w) → rg R n = rg R' n
  | 0, _ => rfl
  | n + 1, h => by rw [rg, rg, rg_cg n (fun w hw => h w (by omega)), h n (by omega)]
theorem ug_cg {R R' : Nat → Int32} {x : Int32} : ∀ n, (∀ w, w < n → R w = R' w) → ug R x n = ug R' x n
  | 0, _ => rfl
  | n + 1, h => by rw [ug, ug, ug_cg n (fun w hw => h w (by omega)), h n (by omega)]
theorem ring_cg {R : Nat → Int32} {g : Nat → Nat → Int32} {D : Nat} (h : ∀ w, w < D → R w = fowg g w) : rg (wlr R D) D = ring g D ∧ ug (wlr R D) (rg (wlr R D) D) D = unsd g D := by
  have e := wlr_cg h D (Nat.le_refl D)
  have e1 : rg (wlr R D) D = ring g D := rg_cg D e
  refine ⟨e1, ?_⟩
  rw [e1]
  exact ug_cg D e
section EQR
variable {B : Mm} {W : Nat} {g : Nat → Nat → Int32}
/-- what the reference keeps: rings, unsound words, what words say -/
theorem kb_se (hW : W ≤ 24) (hr : ∀ w, w < W → ∀ i, i < 8 → gi B 6229 (10 * w + i) = g w i) (rs : ∀ w, w < W → RS6 g W w) (n4 : ∀ w, w < W → g w 0 = 4 → g w 4 = 0) : gi (kbM B W) 6027 23 = ring g W ∧ gi (kbM B W) 6027 24 = unsd g W ∧ RYZ (kbM B W) W (said g W).2.1 (said g W).2.2 := by
  have rows : ∀ w, w < W → ∀ i, i < 8 → wd (kb2 B) w i = g w i := fun w hw i hi => by
    unfold wd
    rw [kb2_t _ _ (by omega)]; exact hr w hw i hi
  have fo : ∀ w, w < W → fow (kb2 B) w = fowg g w := fun w hw => by
    rw [fowg_e]
    exact fowg_cg hw (fun u hu i hi => rows u hu i (by omega))
  obtain ⟨e1, e2⟩ := ring_cg (R := fow (kb2 B)) fo
  have eg : gi (kbM B W) = gi (ffM (kb2 B) W) := (fs_fsM _ W).2.1
  have f23 : gi (ffM (kb2 B) W) 6027 23 = ring g W := by
    unfold ffM
    rw [g6 _ _ _ _ (by decide), g6s]; exact e1
  have f24 : gi (ffM (kb2 B) W) 6027 24 = unsd g W := by
    unfold ffM
    rw [g6s]; exact e2
  refine ⟨by rw [eg]; exact f23, by rw [eg]; exact f24, ?_⟩
  have ew : ∀ v k, wd (ffM (kb2 B) W) v k = wd (kb2 B) v k := fun v k => by unfold wd; rw [ffM_ne _ _ _ (by decide) (by decide)]
  have ew' : wd (ffM (kb2 B) W) = wd (kb2 B) := by funext v k; exact ew v k
  unfold kbM
  refine fsM_b hW (fun w hw i hi => by rw [ew]; exact rows w hw i (by omega)) (fun w hw => ?_) f24 rs n4
  rw [← fo w hw, fowg_e, fowg_e, ew']
/-- told rows without wrong followers are as they must be -/
theorem rows_ok {σ : LSt} (ok : okS σ) (kt : okT σ) (nb : ∀ w, w < σ.2.1 → ¬ bdS σ w) : ∀ w, w < σ.2.1 → RF σ.2.2.1 w ∧ RS6 σ.2.2.1 σ.2.1 w ∧ (σ.2.2.1 w 0 = 4 → σ.2.2.1 w 4 = 0) := by
  intro w hw
  have hD := ok.1
  obtain ⟨-, k, hk, ek, h⟩ := ok.2.2 w hw
  obtain ⟨t1, t2, t3, t4, t5, t6⟩ := kt w hw
  have nw := nb w hw
  have kk : ∀ j, j < 6 → (σ.2.2.1 w 0 = nI j ↔ k = j) := fun j hj => by rw [ek, ninj (by omega) (by omega)]
  have k0 := kk 0 (by decide)
  have k4 := kk 4 (by decide)
  have k5 := kk 5 (by decide)
  have e0 : (nI 0 : Int32) = 0 := rfl
  have e4 : (nI 4 : Int32) = 4 := rfl
  have e5 : (nI 5 : Int32) = 5 := rfl
  rw [e0] at k0
  rw [e4] at k4
  rw [e5] at k5
  refine ⟨⟨?_, fun q => ?_⟩, ⟨?_, t3, t5⟩, fun q => t6 ?_⟩
  · rcases h with ⟨-, e⟩ | ⟨-, f, hf, e⟩
    · exact Or.inl e
    · exact Or.inr ⟨f, hf, e⟩
  · refine ⟨?_, t2 (fun z => ?_)⟩
    · rcases h with ⟨-, e⟩ | ⟨n, -⟩
      · exact e
      · exfalso
        have := k4.mp q
        omega
    · have a := k4.mp q
      have b := k5.mp z
      omega
  · rcases h with ⟨n, e⟩ | ⟨n, f, hf, e⟩
    · left
      refine ⟨?_, e⟩
      have : k = 0 ∨ k = 4 ∨ k = 5 := by omega
      rcases this with z | z | z
      · exact Or.inl (k0.mpr z)
      · exact Or.inr (Or.inl (k4.mpr z))
      · exact Or.inr (Or.inr (k5.mpr z))
    · right
      refine ⟨?_, f, ?_, ?_, e⟩
      · rintro (z | z | z)
        · have := k0.mp z; omega
        · have := k4.mp z; omega
        · have := k5.mp z; omega
      · by_cases lf : f < σ.2.1
        · exact lf
        · exfalso
          refine nw ⟨by rw [e]; exact nI4 (by omega), Or.inl ?_⟩
          rw [e, nle (by omega) (by omega)]; omega
      · intro z
        refine nw ⟨by rw [e]; exact nI4 (by omega), Or.inr (Or.inl ?_)⟩
        rw [e, z]
  · rintro (z | z)
    · have a := k0.mp z
      have b := k4.mp q
      omega
    · have a := k5.mp z
      have b := k4.mp q
      omega
end EQR
end MG64
section MG65
/-! ===== the reference's library exactly, with what it keeps ===== -/
section EQS
variable {M N : Mm} {T : Nat → Int32} {t : Nat}
theorem eM_library2 {K : Int32 → Mm → Prop} {x0 v0 p0 : Int32} (tp : TP M T t) (hx : gi M 6027 14 = x0) (hv : gi M 6027 15 = v0) (hp : gi M 6027 17 = p0)
    (h1 : ∀ N, OS M N → gi N 6027 11 = 0 → ¬ (lpS T t 401 (lS0 T t x0 v0 p0) 0).1.1.2.2.2.2.1 = 0 → gi N 6027 16 = (lpS T t 401 (lS0 T t x0 v0 p0) 0).1.1.2.2.2.2.1 → gi N 6027 17 = (lpS T t 401 (lS0 T t x0 v0 p0) 0).1.1.2.2.2.2.2 → K ((-10) - (lpS T t 401 (lS0 T t x0 v0 p0) 0).1.1.2.2.2.2.2) N)
    (h2 : ∀ N w, OS M N → gi N 6027 11 = 0 → (lpS T t 401 (lS0 T t x0 v0 p0) 0).1.1.2.2.2.2.1 = 0 → w < (lpS T t 401 (lS0 T t x0 v0 p0) 0).1.2.1 → bdS (lpS T t 401 (lS0 T t x0 v0 p0) 0).1 w → (∀ v, v < w → ¬ bdS (lpS T t 401 (lS0 T t x0 v0 p0) 0).1 v) → gi N 6027 16 = 6 → gi N 6027 17 = (lpS T t 401 (lS0 T t x0 v0 p0) 0).1.2.2.2.2.2.2 w → K ((-10) - (lpS T t 401 (lS0 T t x0 v0 p0) 0).1.2.2.2.2.2.2 w) N)
    (h3 : ∀ N, NL M N → gi N 6027 11 = 0 → (lpS T t 401 (lS0 T t x0 v0 p0) 0).1.1.2.2.2.2.1 = 0 → (∀ w, w < (lpS T t 401 (lS0 T t x0 v0 p0) 0).1.2.1 → ¬ bdS (lpS T t 401 (lS0 T t x0 v0 p0) 0).1 w) → gi N 6027 16 = 0 → JW N (lpS T t 401 (lS0 T t x0 v0 p0) 0).1.2.1 → (lpS T t 401 (lS0 T t x0 v0 p0) 0).1.2.1 ≤ 24 → UM N (lpS T t 401 (lS0 T t x0 v0 p0) 0).1.2.1 → okS (lpS T t 401 (lS0 T t x0 v0 p0) 0).1 → (∀ w, w < (lpS T t 401 (lS0 T t x0 v0 p0) 0).1.2.1 → ∀ i, i < 8 → gi N 6101 (10 * w + i) = (lpS T t 401 (lS0 T t x0 v0 p0) 0).1.2.2.1 w i) → (∀ b, b < 8 → gi N 6157 b = (lpS T t 401 (lS0 T t x0 v0 p0) 0).1.2.2.2.1 b) → gi N 6027 9 = 255 → (gi N 6027 23 = ring (lpS T t 401 (lS0 T t x0 v0 p0) 0).1.2.2.1 (lpS T t 401 (lS0 T t x0 v0 p0) 0).1.2.1 ∧ gi N 6027 24 = unsd (lpS T t 401 (lS0 T t x0 v0 p0) 0).1.2.2.1 (lpS T t 401 (lS0 T t x0 v0 p0) 0).1.2.1 ∧ RYZ N (lpS T t 401 (lS0 T t x0 v0 p0) 0).1.2.1 (said (lpS T t 401 (lS0 T t x0 v0 p0) 0).1.2.2.1 (lpS T t 401 (lS0 T t x0 v0 p0) 0).1.2.1).2.1 (said (lpS T t 401 (lS0 T t x0 v0 p0) 0).1.2.2.1 (lpS T t 401 (lS0 T t x0 v0 p0) 0).1.2.1).2.2) → K (nI (lpS T t 401 (lS0 T t x0 v0 p0) 0).2) N) : CI mM_library [.ref 6027] M K := by
  have hm := tp.1
  have ht := tp.2.2.1
  refine call_of rfl (Nat.le_of_ble_eq_true rfl) rfl (vM_library_0 rfl (sM_firstLibrary (mr_w hm rfl) (vM_library_16 rfl ?_)))
  generalize eA : fb0 (si (si M 6027 16 0) 6027 12 0) = A
  have gA : ∀ a, ¬ (a = 6027 ∨ a = 6285 ∨ a = 6360) → gi A a = gi M a := by
    intro a ha
    funext k
    rw [← eA]; unfold fb0
    rw [flR _ _ _ _ _ _ (fun e => ha (by omega)), flR _ _ _ _ _ _ (fun e => ha (by omega)), giR _ _ _ _ _ _ (fun e => ha (by omega)), giR _ _ _ _ _ _ (fun e => ha (by omega)), giR _ _ _ _ _ _ (fun e => ha (by omega)), giR _ _ _ _ _ _ (fun e => ha (by omega))]
  have fA : ∀ k, k ≠ 8 → k ≠ 3 → k ≠ 12 → k ≠ 16 → gi A 6027 k = gi M 6027 k := by
    intro k a b c d
    rw [← eA]; unfold fb0
    rw [flR _ _ _ _ _ _ (by decide), flR _ _ _ _ _ _ (by decide), g6 _ _ _ _ a, g6 _ _ _ _ b, g6 _ _ _ _ c, g6 _ _ _ _ d]
  have fz : ∀ k, k = 8 ∨ k = 3 ∨ k = 12 ∨ k = 16 → gi A 6027 k = 0 := by
    intro k hk
    rw [← eA]; unfold fb0
    rw [flR _ _ _ _ _ _ (by decide), flR _ _ _ _ _ _ (by decide)]
    simp only [gi_si]
    rcases hk with rfl | rfl | rfl | rfl <;> simp
  have cA : ∀ b, b < 8 → gi A 6285 b = 2 ∧ gi A 6360 b = 0 := by
    intro b hb
    rw [← eA]; unfold fb0
    simp only [gi_fl, gi_si]
    constructor <;> simp [hb]
  have rA : gr A = gr M := by rw [← eA, gr_fb0]; rfl
  have lA : gl A = gl M := by rw [← eA]; rfl
  have tpA : TP A T t := ⟨mr_w hm rA, (fA 11 (by decide) (by decide) (by decide) (by decide)).trans tp.2.1, tp.2.2.1, (gA 6486 (by decide)).trans tp.2.2.2⟩
  have osA : ∀ {N}, PL A N → OS M N := by
    intro N pl
    refine ⟨pl.1.trans rA, fun a ha => (pl.2.2.1 a ha).trans (gA a (fun e => ha (by omega))), fun k hk => (pl.2.2.2 k (fun e => hk (by omega))).trans (fA k (fun e => hk (by omega)) (fun e => hk (by omega)) (fun e => hk (by omega)) (fun e => hk (by omega))), pl.2.1.trans lA⟩
  have os11 : ∀ {N}, PL A N → OS M (si N 6027 11 0) := by
    intro N pl
    have os := osA pl
    refine ⟨os.1, fun a ha => ?_, fun k hk => ?_, os.2.2.2⟩
    · rw [gi_ne (fun e => ha (by omega))]; exact os.2.1 a ha
    · rw [g6 _ _ _ _ (fun e => hk (by omega))]; exact os.2.2.1 k hk
  refine nM_next0 tpA (fz 12 (by decide)) (fz 16 (by decide)) (fun N pf rN => ?_)
  rw [fA 14 (by decide) (by decide) (by decide) (by decide), fA 15 (by decide) (by decide) (by decide) (by decide), fA 17 (by decide) (by decide) (by decide) (by decide), hx, hv, hp] at rN
  have ml0 : ML N (lS0 T t x0 v0 p0) := ml_pf pf ⟨fz 3 (by decide), fun w hw => absurd (show w < 0 from hw) (by omega), fun w hw => absurd (show w < 0 from hw) (by omega), fun b hb => (cA b hb).1, fz 8 (by decide), fun b hb => (cA b hb).2⟩
  have rN' : RD N T t (lS0 T t x0 v0 p0).1 := rN
  have okC : okS (lS0 T t x0 v0 p0) := okS0
  have kt0 : okT (lS0 T t x0 v0 p0) := okT0
  have pos0 : (lS0 T t x0 v0 p0).1.2.2.2.2.1 = 0 → ¬ (lS0 T t x0 v0 p0).1.2.2.1 = 0 → 0 < (lS0 T t x0 v0 p0).1.2.1 := fun f n => by
    have := (go_nxs (T := T) (t := t) (s := (0, 0, x0, v0, 0, p0))).2 f
    exact this.2 n
  clear rN
  generalize lS0 T t x0 v0 p0 = σ0 at h1 h2 h3 ml0 rN' okC pos0 kt0
  have ktF := lpS_okT (T := T) (t := t) 401 σ0 0 kt0
  generalize eF : lpS T t 401 σ0 0 = F at h1 h2 h3 ktF
  have bout : ∀ N σ v, PL A N → RD N T t σ.1 → (σ.1.2.2.2.2.1 = 0 → ML N σ ∧ okS σ) → (σ, v) = F → CV mM_checks [.ref 6027] N (fun N => X mM_library 48 [(0, .ref 6027), (1, .int (nI v))] [] N (mC mM_library, mS mM_library) (QI K)) := by
    intro N σ v pl rN lk e
    subst e
    have n16 := rN.2.2.2.2.2.1
    have n17 := rN.2.2.2.2.2.2.1
    have mN := rN.1.1
    by_cases z : σ.1.2.2.2.2.1 = 0
    · obtain ⟨ml, ok⟩ := lk z
      have lb := ml_lb ok ml
      have hr : ∀ w, w < σ.2.1 → gi N 6229 (10 * w + 6) = -4 ∨ ∃ f, f < 24 ∧ gi N 6229 (10 * w + 6) = nI f := by
        intro w hw
        obtain ⟨-, k, hk, ek, h⟩ := lb.2.2.2 w hw
        exact h.imp (fun h => h.2) (fun h => h.2)
      refine nM_checks mN lb.1 lb.2.1 (fun _ => hr) (fun q => absurd (n16.trans z) q) (fun q nb => ?_) (fun q w hw b1 b2 => ?_)
      · have ez : gi (si N 6027 11 0) 6027 16 = 0 := by rw [g6 _ _ _ _ (by decide)]; exact q
        refine vM_library_48 rfl ⟨fun _ => ?_, fun y => absurd (by rw [ez]; decide) y⟩
        have os := osA pl
        have mB : MR (si N 6027 11 0) := mr_w mN rfl
        have lB : LB (si N 6027 11 0) σ.2.1 := by
          refine ⟨by rw [g6 _ _ _ _ (by decide)]; exact lb.1, lb.2.1, by rw [g6 _ _ _ _ (by decide)]; exact lb.2.2.1, fun w hw => rk_eq (fun i _ => by rw [giR _ _ _ _ _ _ (by decide)]) (lb.2.2.2 w hw)⟩
        have nB : ∀ w, w < σ.2.1 → ¬ bad (si N 6027 11 0) σ.2.1 w := by
          intro w hw b
          refine nb w hw ?_
          unfold bad at b ⊢
          rw [gi_ne (show (6229 : Nat) ≠ 6027 by decide)] at b
          exact b
        obtain ⟨k1, k2, k3⟩ := kb_jw mB lB nB
        have kt : okT σ := ktF z
        have nbs : ∀ w, w < σ.2.1 → ¬ bdS σ w := fun w hw b => nb w hw ((bad_eq ok ml hw).mpr b)
        have ro := rows_ok ok kt nbs
        have ks := kb_se (B := si N 6027 11 0) (W := σ.2.1) (g := σ.2.2.1) ok.1 (fun w hw i hi => by rw [giR _ _ _ _ _ _ (by decide)]; exact ml.2.1 w hw i hi) (fun w hw => (ro w hw).2.1) (fun w hw => (ro w hw).2.2)
        have eg : gi (kbM (si N 6027 11 0) σ.2.1) = gi (ffM (kb2 (si N 6027 11 0)) σ.2.1) := (fs_fsM _ σ.2.1).2.1
        refine sM_keepLibrary mB lB.1 lB.2.1 k1 (vM_library_72 (h3 _ ⟨?_, fun a ha => ?_, fun k hk => ?_, fun a j ha => ?_⟩ ?_ z (fun w hw b => nb w hw ((bad_eq ok ml hw).mpr b)) ?_ k2 ok.1 k3 ok (fun w hw i hi => ?_) (fun b hb => ?_) ?_ ks))
        · exact ((fs_fsM _ σ.2.1).2.2.1.trans ((gr_ffM _ _).trans (gr_kb2 _))).trans os.1
        · rw [eg, ffM_ne _ _ _ (fun e => ha (by omega)) (fun e => ha (by omega))]
          funext k
          rw [kb2_ne _ _ _ (fun e => ha (by omega)) (fun e => ha (by omega)) (fun e => ha (by omega)), giR _ _ _ _ _ _ (fun e => ha (by omega)), os.2.1 a (fun e => ha (by omega))]
        · rw [eg, ffM_f _ _ _ (fun e => hk (by omega)) (fun e => hk (by omega)), kb2_f _ _ (fun e => hk (by omega)) (fun e => hk (by omega)), g6 _ _ _ _ (fun e => hk (by omega)), os.2.2.1 k (fun e => hk (by omega))]
        · unfold kbM
          rw [(fs_fsM _ σ.2.1).2.2.2 a j ha, gl_ffM]
          show gl N a j = _
          rw [os.2.2.2]
        · rw [eg, ffM_f _ _ _ (by decide) (by decide), kb2_f _ _ (by decide) (by decide), g6s]
        · rw [eg, ffM_f _ _ _ (by decide) (by decide), kb2_f _ _ (by decide) (by decide)]; exact ez
        · have hD := ok.1
          rw [eg, ffM_ne _ _ _ (by decide) (by decide), kb2_t _ _ (by have : w < σ.2.1 := hw; omega), giR _ _ _ _ _ _ (by decide)]
          exact ml.2.1 w hw i hi
        · rw [eg, ffM_ne _ _ _ (by decide) (by decide), kb2_c _ _ hb, giR _ _ _ _ _ _ (by decide)]
          exact ml.2.2.2.1 b hb
        · rw [eg, ffM_f _ _ _ (by decide) (by decide)]; exact kb2_9 _
      · have bs := (bad_eq ok ml hw).mp b1
        have kc : kCN (σ.2.2.1 w 0) := by
          obtain ⟨-, k, hk, ek, h⟩ := ok.2.2 w hw
          rcases h with ⟨-, e⟩ | ⟨n, -⟩
          · exact absurd e bs.1
          · unfold kCN
            rw [ek, show (1 : Int32) = nI 1 from rfl, show (3 : Int32) = nI 3 from rfl, nlt (by omega) (by omega), nlt (by omega) (by omega)]
            omega
        have ew := ml.2.2.1 w hw kc
        rw [ew]
        generalize eB : si (si N 6027 16 6) 6027 17 (σ.2.2.2.2.2.2 w) = B
        have pB : PL A B := by rw [← eB]; exact pl_tr pl (pl_pf (pf_si (pf_si (pf_rf N) (by decide) (by decide)) (by decide) (by decide)))
        have b16 : gi B 6027 16 = 6 := by rw [← eB, g6 _ _ _ _ (by decide), g6s]
        have b17 : gi B 6027 17 = σ.2.2.2.2.2.2 w := by rw [← eB, g6s]
        have e16 : gi (si B 6027 11 0) 6027 16 = 6 := by rw [g6 _ _ _ _ (by decide)]; exact b16
        have e17 : gi (si B 6027 11 0) 6027 17 = σ.2.2.2.2.2.2 w := by rw [g6 _ _ _ _ (by decide)]; exact b17
        refine vM_library_48 rfl ⟨fun y => ?_, fun _ => ?_⟩
        · rw [e16] at y; exact absurd y (by decide)
        · rw [e17]
          exact h2 _ w (os11 pB) (g6s _ _ _) z hw bs (fun v hv b => b2 v hv ((bad_eq ok ml (Nat.lt_trans hv hw)).mpr b)) e16 e17
    · have nz : ¬ gi N 6027 16 = 0 := by rw [n16]; exact z
      have nl : ¬ gi N 6027 16 ≤ 0 := by rw [n16]; exact rN.2.2.2.2.2.2.2.2.2.resolve_left z
      have e16 : gi (si N 6027 11 0) 6027 16 = gi N 6027 16 := g6 _ _ _ _ (by decide)
      have e17 : gi (si N 6027 11 0) 6027 17 = σ.1.2.2.2.2.2 := by rw [g6 _ _ _ _ (by decide)]; exact n17
      refine call_of rfl (Nat.le_of_ble_eq_true rfl) rfl (vM_checks_0 (vM_checks_2 rfl (mr4 mN) (mr7 mN) ⟨fun q => absurd q.2 nz, fun _ => vM_library_48 rfl ⟨fun y => ?_, fun _ => ?_⟩, fun q => absurd q.2 nz⟩))
      · rw [e16] at y; exact absurd y nl
      · rw [e17]
        exact h1 _ (os11 pl) (g6s _ _ _) z (e16.trans n16) e17
  have key : ∀ n v N σ, v + n = 400 → PL A N → RD N T t σ.1 → (σ.1.2.2.2.2.1 = 0 → ML N σ ∧ okS σ) → (σ.1.2.2.2.2.1 = 0 → ¬ σ.1.2.2.1 = 0 → v < σ.1.2.1) → lpS T t (n + 1) σ v = F → X mM_library 20 [(0, .ref 6027), (1, .int (nI v))] [] N (mC mM_library, mS mM_library) (QI K) := by
    intro n
    induction n with
    | zero =>
      intro v N σ hv pl rN lk pos e
      have n14 := rN.2.2.2.1
      have n16 := rN.2.2.2.2.2.1
      have ex : ¬ σ.1.2.2.2.2.1 = 0 ∨ σ.1.2.2.1 = 0 := by
        by_cases f : σ.1.2.2.2.2.1 = 0
        · right
          by_cases q : σ.1.2.2.1 = 0
          · exact q
          · exfalso
            have p := pos f q
            have b2 := rN.2.2.2.2.2.2.2.2.1
            omega
        · exact Or.inl f
      refine vM_library_20 rfl ⟨fun _ => bout N σ v pl rN lk ((lpS_stop T t ex).symm.trans e), fun q => ?_⟩
      rw [n14, n16] at q
      exact absurd ex (fun y => y.elim (fun y => y q.1) q.2)
    | succ n ih =>
      intro v N σ hv pl rN lk pos e
      have n14 := rN.2.2.2.1
      have n16 := rN.2.2.2.2.2.1
      refine vM_library_20 rfl ⟨fun q => ?_, fun q => ?_⟩
      · rw [n14, n16] at q
        have ex : ¬ σ.1.2.2.2.2.1 = 0 ∨ σ.1.2.2.1 = 0 := q.imp id (fun q => q.2)
        exact bout N σ v pl rN lk ((lpS_stop T t ex).symm.trans e)
      · rw [n14, n16] at q
        obtain ⟨ml, ok⟩ := lk q.1
        have e' : lpS T t (n + 1) (lnS T t σ) (v + 1) = F := (lpS_go T t (fun y => y.elim (fun y => y q.1) q.2)).symm.trans e
        refine nM_lnS rN ml ok (fun O pO rO mO => vM_library_38 ?_)
        rw [nI_s]
        refine ih (v + 1) O (lnS T t σ) (by omega) (pl_tr pl pO) rO (fun y => ⟨mO y, (lnS_ok ok y).1⟩) (fun y1 y2 => ?_) e'
        have g := (lnS_ok ok y1).2
        have := pos q.1 q.2
        omega
  exact key 400 0 N σ0 (by omega) (pl_pf pf) rN' (fun _ => ⟨ml0, okC⟩) pos0 eF
end EQS
end MG65
section MG66
/-! ===== every sound word comes to speak; how many steps it is from its end ===== -/
def nbc (p : Nat → Bool) : Nat → Nat
  | 0 => 0
  | k + 1 => nbc p k + (if p k = true then 1 else 0)
theorem nbc_le (p : Nat → Bool) : ∀ k, nbc p k ≤ k
  | 0 => Nat.le_refl 0
  | k + 1 => by
    rw [nbc]
    have := nbc_le p k
    split <;> omega
theorem nbc_mono {p q : Nat → Bool} : ∀ k, (∀ i, i < k → p i = true → q i = true) → nbc p k ≤ nbc q k
  | 0, _ => Nat.le_refl 0
  | k + 1, h => by
    have := nbc_mono k (fun i hi => h i (by omega))
    rw [nbc, nbc]
    by_cases e : p k = true
    · rw [if_pos e, if_pos (h k (by omega) e)]; omega
    · rw [if_neg e]; omega
theorem nbc_lt {p q : Nat → Bool} {x : Nat} : ∀ k, (∀ i, i < k → p i = true → q i = true) → x < k → p x = false → q x = true → nbc p k < nbc q k
  | 0, _, hx, _, _ => absurd hx (Nat.not_lt_zero x)
  | k + 1, h, hx, h1, h2 => by
    rw [nbc, nbc]
    by_cases e : x = k
    · subst e
      have := nbc_mono (p := p) (q := q) x (fun i hi => h i (by omega))
      rw [h1, if_neg (by decide), if_pos h2]; omega
    · have := nbc_lt (p := p) (q := q) (x := x) k (fun i hi => h i (by omega)) (by omega) h1 h2
      by_cases e : p k = true
      · rw [if_pos e, if_pos (h k (by omega) e)]; omega
      · rw [if_neg e]; omega
theorem nbc_full {p : Nat → Bool} : ∀ k, k ≤ nbc p k → ∀ i, i < k → p i = true
  | 0, _, i, hi => absurd hi (Nat.not_lt_zero i)
  | k + 1, h, i, hi => by
    have l := nbc_le p k
    rw [nbc] at h
    by_cases e : p k = true
    · rw [if_pos e] at h
      by_cases z : i = k
      · rw [z]; exact e
      · exact nbc_full k (by omega) i (by omega)
    · rw [if_neg e] at h; omega
section ES1
variable {g : Nat → Nat → Int32} {u : Int32} {D : Nat}
theorem sp1_m {q : SQ} {w v : Nat} (hw : w < 32) (hv : v < 32) (h : bt q.1 v = true) : bt (sp1 g u q w).1 v = true := by
  unfold sp1
  by_cases c : bt q.1 w = false ∧ bt u w = false ∧ (fowg g w &&& (q.1 ^^^ (-1))) = 0
  · rw [if_pos c]
    exact (bt_or1 _ hw hv).mpr (Or.inl h)
  · rw [if_neg c]; exact h
theorem spr_m {q : SQ} {v : Nat} (hv : v < 32) (h : bt q.1 v = true) : ∀ w, w ≤ 32 → bt (spr g u q w).1 v = true
  | 0, _ => h
  | w + 1, hw => by rw [spr]; exact sp1_m (by omega) hv (spr_m hv h w (by omega))
theorem spr_m2 {q : SQ} {v : Nat} (hv : v < 32) {w : Nat} (h : bt (spr g u q w).1 v = true) : ∀ k, w + k ≤ 32 → bt (spr g u q (w + k)).1 v = true
  | 0, _ => h
  | k + 1, hk => by rw [← Nat.add_assoc, spr]; exact sp1_m (by omega) hv (spr_m2 hv h k (by omega))
/-- what a word follows is inside -/
theorem fow_lt (hD : D ≤ 24) {w v : Nat} (hw : w < D) (rs : RS6 g D w) (hv : v < 32) (h : bt (fowg g w) v = true) : v < D := by
  unfold fowg at h
  by_cases k4 : g w 0 = 4
  · rw [if_pos k4] at h
    have := ((fosg_b g w w (by omega) v hv).mp h).1
    omega
  · rw [if_neg k4] at h
    rcases rs.1 with ⟨-, e⟩ | ⟨-, f, hf, -, e⟩
    · rw [if_pos e, b_0] at h
      exact absurd h (by decide)
    · rw [e, if_neg (nI4 (by omega)), b_one f (by omega) v hv, decide_eq_true_eq] at h
      omega
/-- where words are left, one can speak -/
theorem sp_min {q : SQ} (hD : D ≤ 24) (hu : u = unsd g D) (rs : ∀ w, w < D → RS6 g D w) : ∀ k w, w < D → bt u w = false → bt q.1 w = false → nbc (fun v => bt (wlr (fowg g) D w) v && (!bt u v && !bt q.1 v)) D ≤ k → ∃ w, w < D ∧ bt u w = false ∧ bt q.1 w = false ∧ (fowg g w &&& (q.1 ^^^ (-1))) = 0 := by
  intro k
  induction k with
  | zero =>
    intro w hw h1 h2 h3
    refine ⟨w, hw, h1, h2, an0.mpr (fun v hv e => ?_)⟩
    by_cases z : bt q.1 v = true
    · exact z
    · exfalso
      have zf : bt q.1 v = false := by simpa using z
      have lv := fow_lt hD hw (rs w hw) hv e
      have su : bt u v = false := by
        rw [hu] at h1 ⊢
        exact us_of hD hw h1 hv e
      have c1 : bt (wlr (fowg g) D w) v = true := wlr_0 _ D (by omega) w v e
      have := nbc_lt (p := fun _ => false) (q := fun v => bt (wlr (fowg g) D w) v && (!bt u v && !bt q.1 v)) (x := v) D (fun i _ y => absurd y (by decide)) lv rfl (by rw [c1, su, zf]; rfl)
      omega
  | succ k ih =>
    intro w hw h1 h2 h3
    by_cases c : (fowg g w &&& (q.1 ^^^ (-1))) = 0
    · exact ⟨w, hw, h1, h2, c⟩
    · obtain ⟨v, hv, e⟩ := nz_b.mp c
      rw [b_and, Bool.and_eq_true, b_not _ hv] at e
      have zf : bt q.1 v = false := by
        have := e.2
        cases z : bt q.1 v
        · rfl
        · rw [z] at this; exact absurd this (by decide)
      have lv := fow_lt hD hw (rs w hw) hv e.1
      have su : bt u v = false := by
        rw [hu] at h1 ⊢
        exact us_of hD hw h1 hv e.1
      have c1 : bt (wlr (fowg g) D w) v = true := wlr_0 _ D (by omega) w v e.1
      have nr : bt (wlr (fowg g) D v) v = false := by
        cases z : bt (wlr (fowg g) D v) v
        · rfl
        · exfalso
          have r1 : bt (ring g D) v = true := (rg_b _ D (by omega) v hv).mpr ⟨lv, z⟩
          have : bt (unsd g D) v = true := (ug_b _ _ D (by omega) v hv).mpr (Or.inl r1)
          rw [hu, this] at su
          exact absurd su (by decide)
      refine ih v lv su zf ?_
      have := nbc_lt (p := fun x => bt (wlr (fowg g) D v) x && (!bt u x && !bt q.1 x)) (q := fun x => bt (wlr (fowg g) D w) x && (!bt u x && !bt q.1 x)) (x := v) D (fun i hi y => ?_) lv (by show (bt (wlr (fowg g) D v) v && _) = false; rw [nr, Bool.false_and]) (by show (bt (wlr (fowg g) D w) v && _) = true; rw [c1, su, zf]; rfl)
      · omega
      · have y' : (bt (wlr (fowg g) D v) i && (!bt u i && !bt q.1 i)) = true := y
        show (bt (wlr (fowg g) D w) i && (!bt u i && !bt q.1 i)) = true
        rw [Bool.and_eq_true] at y' ⊢
        exact ⟨wlr_t _ D (by omega) v lv w c1 i y'.1, y'.2⟩
theorem sp_more {q : SQ} (hD : D ≤ 24) (hu : u = unsd g D) (rs : ∀ w, w < D → RS6 g D w) {w : Nat} (hw : w < D) (h1 : bt u w = false) (h2 : bt q.1 w = false) : nbc (bt q.1) D < nbc (bt (spr g u q D).1) D := by
  obtain ⟨x, hx, x1, x2, x3⟩ := sp_min (q := q) hD hu rs _ w hw h1 h2 (Nat.le_refl _)
  refine nbc_lt (x := x) D (fun i hi y => spr_m (by omega) y D (by omega)) hx x2 ?_
  have key : bt (spr g u q (x + 1)).1 x = true := by
    rw [spr]
    by_cases y : bt (spr g u q x).1 x = true
    · exact sp1_m (by omega) (by omega) y
    · have yf : bt (spr g u q x).1 x = false := by simpa using y
      have c : bt (spr g u q x).1 x = false ∧ bt u x = false ∧ (fowg g x &&& ((spr g u q x).1 ^^^ (-1))) = 0 := ⟨yf, x1, an0.mpr (fun v hv e => spr_m hv (an0.mp x3 v hv e) x (by omega))⟩
      unfold sp1
      rw [if_pos c]
      exact (bt_or1 _ (by omega) (by omega)).mpr (Or.inr rfl)
  have := spr_m2 (g := g) (u := u) (q := q) (v := x) (by omega) key (D - (x + 1)) (by omega)
  rwa [show x + 1 + (D - (x + 1)) = D by omega] at this
theorem spR_all (hD : D ≤ 24) (hu : u = unsd g D) (rs : ∀ w, w < D → RS6 g D w) : ∀ n, (∀ w, w < D → bt u w = false → bt (spR g u sq0 D n).1 w = true) ∨ n ≤ nbc (bt (spR g u sq0 D n).1) D
  | 0 => Or.inr (Nat.zero_le _)
  | n + 1 => by
    rcases spR_all hD hu rs n with h | h
    · left
      intro w hw e
      rw [spR]
      exact spr_m (by omega) (h w hw e) D (by omega)
    · by_cases c : ∀ w, w < D → bt u w = false → bt (spR g u sq0 D n).1 w = true
      · left
        intro w hw e
        rw [spR]
        exact spr_m (by omega) (c w hw e) D (by omega)
      · right
        have : ∃ w, w < D ∧ bt u w = false ∧ bt (spR g u sq0 D n).1 w = false := by
          by_cases z : ∃ w, w < D ∧ bt u w = false ∧ bt (spR g u sq0 D n).1 w = false
          · exact z
          · exfalso
            refine c (fun w hw e => ?_)
            cases y : bt (spR g u sq0 D n).1 w
            · exact absurd ⟨w, hw, e, y⟩ z
            · rfl
        obtain ⟨w, hw, e1, e2⟩ := this
        have := sp_more (q := spR g u sq0 D n) hD hu rs hw e1 e2
        rw [spR]; omega
/-- every sound word has spoken -/
theorem said_all (hD : D ≤ 24) (rs : ∀ w, w < D → RS6 g D w) {w : Nat} (hw : w < D) (h : bt (unsd g D) w = false) : bt (said g D).1 w = true := by
  rcases spR_all (g := g) hD rfl rs D with a | a
  · exact a w hw h
  · exact nbc_full D a w hw
/-- who has spoken comes to an end, in fewer steps than have spoken -/
def CE (g : Nat → Nat → Int32) (D : Nat) (q : SQ) : Prop := ∀ w, w < D → bt q.1 w = true → ∃ n, chs g n w ∧ n < nbc (bt q.1) D
theorem ce_sp1 (hD : D ≤ 24) {q : SQ} {w : Nat} (hw : w < D) (rs : RS6 g D w) (h : CE g D q) : CE g D (sp1 g u q w) := by
  unfold sp1
  by_cases c : bt q.1 w = false ∧ bt u w = false ∧ (fowg g w &&& (q.1 ^^^ (-1))) = 0
  · rw [if_pos c]
    have more : nbc (bt q.1) D < nbc (bt (q.1 ||| ((1 : Int32) <<< (nI w &&& 31)))) D := nbc_lt (x := w) D (fun i hi y => (bt_or1 _ (by omega) (by omega)).mpr (Or.inl y)) hw c.1 ((bt_or1 _ (by omega) (by omega)).mpr (Or.inr rfl))
    intro v hv e
    have e' : bt (q.1 ||| ((1 : Int32) <<< (nI w &&& 31))) v = true := e
    show ∃ n, chs g n v ∧ n < nbc (bt (q.1 ||| ((1 : Int32) <<< (nI w &&& 31)))) D
    rcases (bt_or1 _ (by omega) (by omega)).mp e' with e' | rfl
    · obtain ⟨n, a, b⟩ := h v hv e'
      exact ⟨n, a, by omega⟩
    · rcases rs.1 with ⟨-, e6⟩ | ⟨nk, f, hf, -, e6⟩
      · exact ⟨0, e6, by omega⟩
      · have fo : bt (fowg g v) f = true := by
          unfold fowg
          rw [if_neg (fun z => nk (Or.inr (Or.inl z))), e6, if_neg (nI4 (by omega)), b_one f (by omega) f (by omega), decide_eq_true_eq]
        obtain ⟨n, a, b⟩ := h f hf (an0.mp c.2.2 f (by omega) fo)
        exact ⟨n + 1, ⟨f, by omega, e6, a⟩, by omega⟩
  · rw [if_neg c]; exact h
theorem ce_spr (hD : D ≤ 24) (rs : ∀ w, w < D → RS6 g D w) {q : SQ} (h : CE g D q) : ∀ w, w ≤ D → CE g D (spr g u q w)
  | 0, _ => h
  | w + 1, hw => by rw [spr]; exact ce_sp1 hD (by omega) (rs w (by omega)) (ce_spr hD rs h w (by omega))
theorem ce_spR (hD : D ≤ 24) (rs : ∀ w, w < D → RS6 g D w) : ∀ n, CE g D (spR g u sq0 D n)
  | 0 => fun w _ e => by
    have : bt 0 w = true := e
    rw [b_0] at this
    exact absurd this (by decide)
  | n + 1 => by rw [spR]; exact ce_spr hD rs (ce_spR hD rs n) D (Nat.le_refl D)
/-- a sound word comes to its end in fewer steps than there are words -/
theorem chs_ex (hD : D ≤ 24) (rs : ∀ w, w < D → RS6 g D w) {w : Nat} (hw : w < D) (h : bt (unsd g D) w = false) : ∃ n, n < D ∧ chs g n w := by
  obtain ⟨n, a, b⟩ := ce_spR (g := g) (u := unsd g D) hD rs D w hw (said_all hD rs hw h)
  exact ⟨n, Nat.lt_of_lt_of_le b (nbc_le _ D), a⟩
end ES1
end MG66
section MG67
/-! ===== the class weighs all words, exactly ===== -/
/-- the end of a word's following -/
def eng (g : Nat → Nat → Int32) : Nat → Nat → Nat
  | 0, v => v
  | n + 1, v => if g v 6 = -4 then v else eng g n (g v 6).toNatClampNeg
theorem eng_e (M : Mm) : ∀ n v, en M n v = eng (wd M) n v
  | 0, _ => rfl
  | n + 1, v => by rw [en, eng, eng_e M n]
theorem eng_0 {g : Nat → Nat → Int32} {v : Nat} (h : g v 6 = -4) : ∀ n, eng g n v = v
  | 0 => rfl
  | n + 1 => by rw [eng, if_pos h]
theorem eng_f {g : Nat → Nat → Int32} {v f n : Nat} (hf : f < 24) (h : g v 6 = nI f) : eng g (n + 1) v = eng g n f := by
  rw [eng, h, if_neg (nI4 (by omega)), ncl (by omega)]
theorem eng_s {g : Nat → Nat → Int32} : ∀ m v, chs g m v → ∀ n, m ≤ n → eng g n v = eng g m v
  | 0, v, h, n, _ => by rw [eng_0 h n]; rfl
  | m + 1, v, ⟨f, hf, e, h⟩, n, hn => by
    obtain ⟨k, rfl⟩ : ∃ k, n = k + 1 := ⟨n - 1, by omega⟩
    rw [eng_f hf e, eng_f hf e]
    exact eng_s m f h k (by omega)
theorem eng_cg {g g' : Nat → Nat → Int32} {D : Nat} (hD : D ≤ 24) (h : ∀ w, w < D → g w 6 = g' w 6) (k : ∀ w, w < D → g w 6 = -4 ∨ ∃ f, f < D ∧ g w 6 = nI f) : ∀ n v, v < D → eng g n v = eng g' n v ∧ eng g n v < D
  | 0, v, hv => ⟨rfl, hv⟩
  | n + 1, v, hv => by
    rw [eng, eng, ← h v hv]
    rcases k v hv with e | ⟨f, hf, e⟩
    · rw [if_pos e, if_pos e]; exact ⟨rfl, hv⟩
    · rw [e, if_neg (nI4 (by omega)), if_neg (nI4 (by omega)), ncl (by omega)]
      exact eng_cg hD h k n f hf
/-- a sound word's weight -/
def wgv (g : Nat → Nat → Int32) (v : Nat) : Int32 := co (g (eng g 25 v) 3) 32 + co (g (eng g 25 v) 4) 32
theorem co_64 : ∀ m, m < 64 → co (nI m) 32 = nI (pc8 m) := by decide +kernel
theorem pc_64 : ∀ m, m < 64 → ∀ k, k < 64 → (nI m &&& nI k) = 0 → pc8 m + pc8 k ≤ 6 := by decide +kernel
/-- a row's marks are apart -/
def MD (g : Nat → Nat → Int32) (w : Nat) : Prop := (∃ m, m < 64 ∧ g w 3 = nI m) ∧ (∃ m, m < 64 ∧ g w 4 = nI m) ∧ (g w 3 &&& g w 4) = 0
theorem md_w {g : Nat → Nat → Int32} {w : Nat} (h : MD g w) : ∃ k, k < 7 ∧ co (g w 3) 32 + co (g w 4) 32 = nI k := by
  obtain ⟨⟨m, hm, em⟩, ⟨n, hn, e2⟩, hd⟩ := h
  rw [em, e2] at hd
  have := pc_64 m hm n hn hd
  rw [em, e2, co_64 m hm, co_64 n hn, nadd]
  exact ⟨_, by omega, rfl⟩
/-- weights and the words' ninth field alone change -/
def F6 (r : Nat) (M N : Mm) : Prop := gr N = gr M ∧ gl N = gl M ∧ (∀ a, a ≠ r + 590 → (∀ w, w < 24 → a ≠ r + 776 + 64 * w) → gi N a = gi M a) ∧ ∀ w, w < 24 → ∀ k, k ≠ 9 → gi N (r + 776 + 64 * w) k = gi M (r + 776 + 64 * w) k
theorem f6_tr {r : Nat} {M N O : Mm} (f : F6 r M N) (g : F6 r N O) : F6 r M O := ⟨g.1.trans f.1, g.2.1.trans f.2.1, fun a h1 h2 => (g.2.2.1 a h1 h2).trans (f.2.2.1 a h1 h2), fun w hw k hk => (g.2.2.2 w hw k hk).trans (f.2.2.2 w hw k hk)⟩
theorem f6_9 {r w : Nat} {M : Mm} {v : Int32} (hw : w < 24) : F6 r M (si M (r + 776 + 64 * w) 9 v) := by
  refine ⟨rfl, rfl, fun a h1 h2 => gi_ne (h2 w hw), fun x hx k hk => ?_⟩
  rw [gi_si, if_neg (fun e => hk e.2)]
theorem f6_si {r j : Nat} {M : Mm} {v : Int32} : F6 r M (si M (r + 590) j v) := ⟨rfl, rfl, fun a h1 _ => gi_ne h1, fun w hw k hk => by rw [giR _ _ _ _ _ _ (by omega)]⟩
theorem f6_fl {r n : Nat} {M : Mm} {v : Int32} : F6 r M (fl M (r + 590) n v) := by
  refine ⟨rfl, rfl, fun a h1 _ => ?_, fun w hw k hk => ?_⟩
  · funext k; rw [flR _ _ _ _ _ _ h1]
  · rw [flR _ _ _ _ _ _ (by omega)]
theorem f6_st {r : Nat} {M N : Mm} (f : F6 r M N) : ST r M N := by
  obtain ⟨f1, f2, f3, f4⟩ := f
  refine ⟨f1, f2, by rw [f3 r (by omega) (fun w hw => by omega)], fun v hv i hi => f4 v hv i (by omega), fun a ha => f3 a (by omega) (fun w hw => by omega), f3 _ (by omega) (fun w hw => by omega)⟩
section ES3
variable {M : Mm} {r D : Nat} {g : Nat → Nat → Int32} {u : Int32}
theorem eS_weightOf {w : Nat} {K : Int32 → Mm → Prop} (l : LD M r D) (hw : w < D) (eg : ∀ w, w < D → ∀ i, i < 7 → gi M (r + 776 + 64 * w) i = g w i) (hu : gi M r 13 = u) (h1 : bt u w = true → ∀ v, K v M) (h2 : bt u w = false → (∃ n, n < D ∧ chs g n w) ∧ K (wgv g w) M) : CI mLi_weightOf [.ref r, .int (nI w)] M K := by
  have hl := l.1
  have hD := l.2.2.1
  by_cases su : bt u w = true
  · exact lS_weightOf l hw (h1 su)
  · have sf : bt u w = false := by simpa using su
    obtain ⟨⟨n, hn, hc⟩, h⟩ := h2 sf
    have b65 : ∀ v, v < D → eng g 25 w = v → X mLi_weightOf 65 [(0, .ref r), (2, .int (nI v))] [] M (mC mLi_weightOf, mS mLi_weightOf) (QI K) := by
      intro v hv e
      refine vLi_weightOf_65 hl.1 (lr0 hl) ⟨ld_v l hv, r + 776 + 64 * v, ld_gw l (by omega), sJi_bitCount (fun x ex => vLi_weightOf_77 hl.1 (lr0 hl) ⟨ld_v l hv, r + 776 + 64 * v, ld_gw l (by omega), sJi_bitCount (fun y ey => vLi_weightOf_89 ?_)⟩)⟩
      rw [ex, ey, bc_co, bc_co, eg v hv 3 (by decide), eg v hv 4 (by decide)]
      unfold wgv at h
      rw [e] at h
      exact h
    have e0 : eng g n w = eng g 25 w := (eng_s n w hc 25 (by omega)).symm
    have b25 : X mLi_weightOf 25 [(0, .ref r), (1, .int (nI w))] [] M (mC mLi_weightOf, mS mLi_weightOf) (QI K) := by
      refine vLi_weightOf_25 ?_
      refine lp D (P := fun i => ∀ v m, v < D → i + m = n → chs g m v → eng g m v = eng g 25 w → X mLi_weightOf 29 [(0, .ref r), (2, .int (nI v)), (3, .int (nI i))] [] M (mC mLi_weightOf, mS mLi_weightOf) (QI K)) (fun i hi ih v m hv hm hcv ev => ?_) (fun v m hv hm _ _ => absurd hm (by omega)) w n hw (by omega) hc e0
      obtain ⟨-, -, -, hf⟩ := l.2.2.2 v hv
      refine vLi_weightOf_29 hl.1 (lr0 hl) ⟨fun q => absurd q (ld_le l hi), fun _ => ⟨ld_v l hv, r + 776 + 64 * v, ld_gw l (by omega), fun q => b65 v hv ?_, fun q => ⟨ld_v l hv, r + 776 + 64 * v, ld_gw l (by omega), ?_⟩⟩⟩
      · rw [eg v hv 6 (by decide)] at q
        cases m with
        | zero => rw [← ev]; rfl
        | succ m =>
          obtain ⟨f, hf', e, -⟩ := hcv
          rw [e] at q
          exact absurd q (n0 f (by omega))
      · rw [eg v hv 6 (by decide)] at q ⊢
        cases m with
        | zero =>
          have z : g v 6 = -4 := hcv
          rw [z] at q
          exact absurd (by decide) q
        | succ m =>
          obtain ⟨f, hf', e, hcf⟩ := hcv
          have fD : f < D := by
            obtain ⟨x, hx, ex⟩ := hf.resolve_left (by rw [eg v hv 6 (by decide)]; exact q)
            rw [eg v hv 6 (by decide), e, ninj (by omega) (by omega)] at ex
            omega
          rw [e, nI_s]
          exact ih f m fD (by omega) hcf (by rw [← ev, eng_f hf' e])
    refine call_of rfl (Nat.le_of_ble_eq_true rfl) rfl (vLi_weightOf_0 hl.1 (lr0 hl) ⟨ld_v l hw, r + 776 + 64 * w, ld_gw l (by omega), fun _ => b25, fun _ => sC_holds (vLi_weightOf_20 ⟨fun _ => b25, fun q => ?_⟩)⟩)
    exfalso
    rw [hu, if_neg (fun z => su ((bitu _ (by omega)).mp z))] at q
    exact q rfl
/-- the words of a weight, those less than n -/
def WT (N : Mm) (r : Nat) (g : Nat → Nat → Int32) (u : Int32) (n : Nat) : Prop := ∀ k, k < 7 → ∀ v, v < 32 → (n ≤ v → bt (gi N (r + 590) k) v = false) ∧ (v < n → bt u v = false → (bt (gi N (r + 590) k) v = true ↔ wgv g v = nI k))
theorem eS_weighAll {K : Mm → Prop} (l : LD M r D) (eg : ∀ w, w < D → ∀ i, i < 7 → gi M (r + 776 + 64 * w) i = g w i) (hu : gi M r 13 = u) (hc : ∀ w, w < D → bt u w = false → ∃ n, n < D ∧ chs g n w) (hk : ∀ w, w < D → bt u w = false → ∃ k, k < 7 ∧ wgv g w = nI k) (h : ∀ N, F6 r M N → WT N r g u D → K N) : CV mLi_weighAll [.ref r] M K := by
  have hl := l.1
  have hD := l.2.2.1
  refine call_of rfl (Nat.le_of_ble_eq_true rfl) rfl (vLi_weighAll_0 hl.1 (lr9 hl) (sJr_fill (lrk hl 590 15 rfl (by decide)) ak_15 (by decide) (vLi_weighAll_8 ?_)))
  refine lp D (P := fun i => ∀ N, F6 r M N → WT N r g u i → X mLi_weighAll 10 [(0, .ref r), (1, .int (nI i))] [] N (mC mLi_weighAll, mS mLi_weighAll) (QV K)) (fun i hi ih N fN wN => ?_) (fun N fN wN => ?_) _ f6_fl (fun k hk v hv => ⟨fun _ => by rw [gi_fl, if_pos ⟨rfl, hk⟩, b_0], fun z => absurd z (by omega)⟩)
  · have lN := ld_st (f6_st fN) l
    have egN : ∀ w, w < D → ∀ j, j < 7 → gi N (r + 776 + 64 * w) j = g w j := fun w hw j hj => by rw [fN.2.2.2 w (by omega) j (by omega)]; exact eg w hw j hj
    have uN : gi N r 13 = u := by rw [fN.2.2.1 r (by omega) (fun w hw => by omega)]; exact hu
    have go : ∀ v, (bt u i = false → v = wgv g i) → X mLi_weighAll 23 [(0, .ref r), (1, .int (nI i))] [.int v] N (mC mLi_weighAll, mS mLi_weighAll) (QV K) := by
      intro v hv
      refine vLi_weighAll_23 hl.1 (lr0 lN.1) (lr9 lN.1) ⟨ld_v lN hi, r + 776 + 64 * i, ld_gw lN (by omega), fun q => ?_, fun q => ?_, fun q => ⟨?_, ?_⟩⟩
      · obtain ⟨k, hk, ek⟩ := rng (c := 7) (n := 7) rfl (by decide) q.1 q.2
        rw [ek]; exact vin hk (by decide)
      · rw [nI_s]
        refine ih _ (f6_tr fN (f6_9 (by omega))) (fun k hk' x hx => ?_)
        rw [giR _ _ _ _ _ _ (by omega)]
        obtain ⟨a, b⟩ := wN k hk' x hx
        refine ⟨fun z => a (by omega), fun z y => ?_⟩
        by_cases e : x = i
        · subst e
          exfalso
          obtain ⟨k0, hk0, ek0⟩ := hk x hi y
          rw [hv y, ek0, show (7 : Int32) = nI 7 from rfl] at q
          rcases q with q | q
          · exact n0 k0 (by omega) q
          · have := (nle (by omega) (by omega)).mp q.2
            omega
        · exact b (by omega) y
      · obtain ⟨k, hk, ek⟩ := rng (c := 7) (n := 7) rfl (by decide) q.1 q.2
        rw [ek]; exact vin hk (by decide)
      · obtain ⟨k0, hk0, ek0⟩ := rng (c := 7) (n := 7) rfl (by decide) q.1 q.2
        rw [nI_s]
        refine ih _ (f6_tr fN (f6_tr (f6_9 (by omega)) f6_si)) (fun k hk' x hx => ?_)
        have c0 : v.toNatClampNeg = k0 := by rw [ek0]; exact ncl (by omega)
        rw [c0, gxs, giR _ _ _ _ _ _ (show r + 590 ≠ r + 776 + 64 * i by omega), giR _ _ _ _ _ _ (show r + 590 ≠ r + 776 + 64 * i by omega)]
        obtain ⟨a, b⟩ := wN k hk' x hx
        by_cases e : k = k0
        · subst e
          rw [if_pos rfl]
          refine ⟨fun z => ?_, fun z y => ?_⟩
          · have a' := a (by omega)
            cases w : bt (gi N (r + 590) k ||| ((1 : Int32) <<< (nI i &&& 31))) x
            · rfl
            · rcases (bt_or1 _ (by omega) hx).mp w with w | w
              · exact (a'.symm.trans w).symm
              · omega
          · rw [bt_or1 _ (by omega) hx]
            by_cases e : x = i
            · subst e
              rw [← hv y]
              exact ⟨fun _ => ek0, fun _ => Or.inr rfl⟩
            · rw [b (by omega) y]
              exact ⟨fun z => z.elim id (fun z => absurd z e), Or.inl⟩
        · rw [if_neg e]
          refine ⟨fun z => a (by omega), fun z y => ?_⟩
          by_cases ex : x = i
          · subst ex
            rw [a (Nat.le_refl x), ← hv y, ek0, ninj (by omega) (by omega)]
            exact ⟨fun z => absurd z (by decide), fun z => absurd z.symm e⟩
          · exact b (by omega) y
    refine vLi_weighAll_10 hl.1 ⟨fun q => absurd q (ld_le lN hi), fun _ => eS_weightOf (g := g) (u := u) lN hi egN uN (fun y v => go v (fun z => absurd (y.symm.trans z) (by decide))) (fun y => ⟨hc i hi y, go _ (fun _ => rfl)⟩)⟩
  · have lN := ld_st (f6_st fN) l
    exact vLi_weighAll_10 hl.1 ⟨fun _ => h N fN wN, fun q => absurd (ld_se lN) q⟩
end ES3
end MG67
section MG68
/-! ===== the class asks the laws, exactly ===== -/
def lsv (g : Nat → Nat → Int32) (Y Z : Nat → Nat → Bool) (c i : Nat) : Int32 := if g i 0 = 5 then vl2 (Y i c) (Z i c) else -4
abbrev lsb (g : Nat → Nat → Int32) (lt : Bool) (i : Nat) (s : Int32 × Int32 × Int32) : Prop := s.1 = -4 ∨ (lt = true ∧ ¬ g i 7 ≤ s.2.1) ∨ (¬ lt = true ∧ ¬ s.2.1 ≤ g i 7)
def lsS (g : Nat → Nat → Int32) (Y Z : Nat → Nat → Bool) (lt : Bool) (c : Nat) : Nat → Int32 × Int32 × Int32
  | 0 => (-4, 0, 0)
  | i + 1 => if lsv g Y Z c i = -4 ∨ (¬ lsb g lt i (lsS g Y Z lt c i) ∧ ¬ g i 7 = (lsS g Y Z lt c i).2.1) then lsS g Y Z lt c i else (lsv g Y Z c i, g i 7, if lsb g lt i (lsS g Y Z lt c i) ∨ ((lsS g Y Z lt c i).2.2 = 0 ∧ lsv g Y Z c i = (lsS g Y Z lt c i).1) then 0 else 1)
/-- what the latest, or the first, law says of a case -/
def lsV (g : Nat → Nat → Int32) (Y Z : Nat → Nat → Bool) (lt : Bool) (c D : Nat) : Int32 := if (lsS g Y Z lt c D).2.2 = 0 then (lsS g Y Z lt c D).1 else -4
theorem lsS_n {g : Nat → Nat → Int32} {Y Z : Nat → Nat → Bool} {lt : Bool} {c D : Nat} (h : ∀ i, i < D → lsv g Y Z c i = -4) : ∀ i, i ≤ D → lsS g Y Z lt c i = (-4, 0, 0)
  | 0, _ => rfl
  | i + 1, hi => by rw [lsS, if_pos (Or.inl (h i hi))]; exact lsS_n h i (by omega)
/-- the chosen laws, and what the state says of them -/
def LC (y n ch day : Int32) (s : Int32 × Int32 × Int32) : Prop := (s = (-4, 0, 0) ∧ ch = 0) ∨ (¬ s.1 = -4 ∧ ¬ ch = 0 ∧ day = s.2.1 ∧ ((s.2.2 = 0 ∧ ((s.1 = 1 ∧ ¬ (y &&& ch) = 0 ∧ (n &&& ch) = 0) ∨ (s.1 = 0 ∧ (y &&& ch) = 0 ∧ ¬ (n &&& ch) = 0))) ∨ (s.2.2 = 1 ∧ ¬ (y &&& ch) = 0 ∧ ¬ (n &&& ch) = 0)))
theorem lc_agr {y n ch day : Int32} {s : Int32 × Int32 × Int32} (h : LC y n ch day s) : (if (n &&& ch) = 0 then (if (y &&& ch) = 0 then (-4 : Int32) else 1) else (if (y &&& ch) = 0 then 0 else -4)) = (if s.2.2 = 0 then s.1 else -4) := by
  rcases h with ⟨e, z⟩ | ⟨-, -, -, ⟨e, ⟨e1, a, b⟩ | ⟨e1, a, b⟩⟩ | ⟨e, a, b⟩⟩
  · rw [e, z, Int32.and_zero, Int32.and_zero]; rfl
  · rw [if_pos b, if_neg a, if_pos e, e1]
  · rw [if_neg b, if_pos a, if_pos e, e1]
  · rw [if_neg b, if_neg a, if_neg (by rw [e]; decide)]
theorem and_or_z (y a b : Int32) : (y &&& (a ||| b)) = 0 ↔ (y &&& a) = 0 ∧ (y &&& b) = 0 := by
  have k : ∀ x : Int32, x = 0 ↔ ∀ v, v < 32 → bt x v = false := fun x => by
    constructor
    · intro e v _; rw [e, b_0]
    · intro h; exact b_ext (fun v hv => by rw [h v hv, b_0])
  rw [k, k, k]
  constructor
  · intro h
    refine ⟨fun v hv => ?_, fun v hv => ?_⟩
    · have := h v hv
      rw [b_and, b_or] at this
      rw [b_and]
      revert this
      cases bt y v <;> cases bt a v <;> cases bt b v <;> decide
    · have := h v hv
      rw [b_and, b_or] at this
      rw [b_and]
      revert this
      cases bt y v <;> cases bt a v <;> cases bt b v <;> decide
  · rintro ⟨h1, h2⟩ v hv
    have a1 := h1 v hv
    have a2 := h2 v hv
    rw [b_and] at a1 a2
    rw [b_and, b_or]
    revert a1 a2
    cases bt y v <;> cases bt a v <;> cases bt b v <;> decide
theorem and_one_z (y : Int32) {i : Nat} (hi : i < 32) : (y &&& ((1 : Int32) <<< (nI i &&& 31))) = 0 ↔ bt y i = false := by
  constructor
  · intro h
    have := b_and y ((1 : Int32) <<< (nI i &&& 31)) i
    rw [h, b_0, b_one i hi i hi, decide_eq_true rfl, Bool.and_true] at this
    exact this.symm
  · intro h
    refine b_ext (fun v hv => ?_)
    rw [b_and, b_one i hi v hv, b_0]
    by_cases e : v = i
    · subst e; rw [h]; rfl
    · rw [decide_eq_false e, Bool.and_false]
theorem one_nz {i : Nat} (hi : i < 32) : ¬ ((1 : Int32) <<< (nI i &&& 31)) = 0 := fun h => by
  have := b_one i hi i hi
  rw [h, b_0, decide_eq_true rfl] at this
  exact absurd this (by decide)
theorem or_nz {a b : Int32} (h : ¬ a = 0) : ¬ (a ||| b) = 0 := fun z => by
  obtain ⟨v, hv, e⟩ := nz_b.mp h
  have := b_or a b v
  rw [z, b_0, e, Bool.true_or] at this
  exact absurd this (by decide)
/-- one law more: better, of the same day, of another day -/
theorem lc_better {y n : Int32} {i : Nat} (hi : i < 32) {v d : Int32} (hv : (v = 1 ∧ bt y i = true ∧ bt n i = false) ∨ (v = 0 ∧ bt y i = false ∧ bt n i = true)) : LC y n (0 ||| ((1 : Int32) <<< (nI i &&& 31))) d (v, d, 0) := by
  rw [show ∀ x : Int32, (0 ||| x) = x from fun x => Int32.zero_or]
  right
  have t : ∀ x : Int32, bt x i = true → ¬ (x &&& ((1 : Int32) <<< (nI i &&& 31))) = 0 := fun x e z => by
    rw [and_one_z x hi, e] at z
    exact absurd z (by decide)
  have f : ∀ x : Int32, bt x i = false → (x &&& ((1 : Int32) <<< (nI i &&& 31))) = 0 := fun x e => (and_one_z x hi).mpr e
  rcases hv with ⟨rfl, a, b⟩ | ⟨rfl, a, b⟩
  · exact ⟨show ¬ (1 : Int32) = -4 by decide, one_nz hi, rfl, Or.inl ⟨rfl, Or.inl ⟨rfl, t y a, f n b⟩⟩⟩
  · exact ⟨show ¬ (0 : Int32) = -4 by decide, one_nz hi, rfl, Or.inl ⟨rfl, Or.inr ⟨rfl, f y a, t n b⟩⟩⟩
theorem lc_same {y n ch d : Int32} {s : Int32 × Int32 × Int32} {i : Nat} (hi : i < 32) {v : Int32} (hv : (v = 1 ∧ bt y i = true ∧ bt n i = false) ∨ (v = 0 ∧ bt y i = false ∧ bt n i = true)) (n0 : ¬ ch = 0) (h : LC y n ch d s) : LC y n (ch ||| ((1 : Int32) <<< (nI i &&& 31))) d (v, d, if s.2.2 = 0 ∧ v = s.1 then 0 else 1) := by
  have t : ∀ x : Int32, bt x i = true → ¬ (x &&& (ch ||| ((1 : Int32) <<< (nI i &&& 31)))) = 0 := fun x e z => by
    rw [and_or_z, and_one_z x hi, e] at z
    exact absurd z.2 (by decide)
  have f : ∀ x : Int32, bt x i = false → ((x &&& (ch ||| ((1 : Int32) <<< (nI i &&& 31)))) = 0 ↔ (x &&& ch) = 0) := fun x e => by
    rw [and_or_z, and_one_z x hi]
    exact ⟨fun z => z.1, fun z => ⟨z, e⟩⟩
  rcases h with ⟨-, z⟩ | ⟨a1, a2, a3, h⟩
  · exact absurd z n0
  · right
    have v4 : ¬ v = -4 := by rcases hv with ⟨rfl, -⟩ | ⟨rfl, -⟩ <;> decide
    refine ⟨v4, or_nz n0, rfl, ?_⟩
    rcases hv with ⟨rfl, a, b⟩ | ⟨rfl, a, b⟩
    · rcases h with ⟨e, ⟨e1, c1, c2⟩ | ⟨e1, c1, c2⟩⟩ | ⟨e, c1, c2⟩
      · left; exact ⟨if_pos ⟨e, e1.symm⟩, Or.inl ⟨rfl, t y a, (f n b).mpr c2⟩⟩
      · right; exact ⟨if_neg (fun z => by rw [e1] at z; exact absurd z.2 (by decide)), t y a, fun z => c2 ((f n b).mp z)⟩
      · right; exact ⟨if_neg (fun z => by rw [e] at z; exact absurd z.1 (by decide)), t y a, fun z => c2 ((f n b).mp z)⟩
    · rcases h with ⟨e, ⟨e1, c1, c2⟩ | ⟨e1, c1, c2⟩⟩ | ⟨e, c1, c2⟩
      · right; exact ⟨if_neg (fun z => by rw [e1] at z; exact absurd z.2 (by decide)), fun z => c1 ((f y a).mp z), t n b⟩
      · left; exact ⟨if_pos ⟨e, e1.symm⟩, Or.inr ⟨rfl, (f y a).mpr c1, t n b⟩⟩
      · right; exact ⟨if_neg (fun z => by rw [e] at z; exact absurd z.1 (by decide)), fun z => c1 ((f y a).mp z), t n b⟩
/-- the laws' two rows alone change -/
def F7 (r : Nat) (M N : Mm) : Prop := gr N = gr M ∧ gl N = gl M ∧ ∀ a, a ≠ r + 333 → a ≠ r + 397 → gi N a = gi M a
theorem f7_rf (r : Nat) (M : Mm) : F7 r M M := ⟨rfl, rfl, fun _ _ _ => rfl⟩
theorem f7_si {r j x : Nat} {M N : Mm} {v : Int32} (h : x = r + 333 ∨ x = r + 397) (f : F7 r M N) : F7 r M (si N x j v) := ⟨f.1, f.2.1, fun a h1 h2 => by rw [gi_ne (by omega)]; exact f.2.2 a h1 h2⟩
theorem f7_st {r : Nat} {M N : Mm} (f : F7 r M N) : ST r M N := by
  obtain ⟨f1, f2, f3⟩ := f
  exact ⟨f1, f2, by rw [f3 r (by omega) (by omega)], fun v hv i hi => by rw [f3 _ (by omega) (by omega)], fun a ha => f3 a (by omega) (by omega), f3 _ (by omega) (by omega)⟩
section ES4
variable {M : Mm} {r D : Nat} {g : Nat → Nat → Int32} {Y Z : Nat → Nat → Bool}
theorem eS_lawSaying {c : Nat} {b : Int32} {lt : Bool} {K : Int32 → Mm → Prop} (l : LD M r D) (hc : c < 64) (hb : ¬ b = 0 ↔ lt = true) (ed : ∀ w, w < D → g w 0 = 5 → gi M (r + 776 + 64 * w) 8 = g w 7) (lw : ∀ v, v < 32 → (bt (gi M r 10) v = true ↔ v < D ∧ g v 0 = 5)) (cy : CY M r Y Z) (xc : ∀ v c, ¬ (Y v c = true ∧ Z v c = true)) (h : K (lsV g Y Z lt c D) M) : CI mLi_lawSaying [.ref r, .int (nI c), .int b] M K := by
  have hl := l.1
  have hD := l.2.2.1
  have cc : (nI c).toNatClampNeg = c := ncl (by omega)
  refine call_of rfl (Nat.le_of_ble_eq_true rfl) rfl (vLi_lawSaying_0 hl.1 (sLi_speaking hl hc (vLi_lawSaying_5 hl.1 ?_)))
  have sb : ∀ v, v < 32 → (bt ((gi M (r + 205) c ||| gi M (r + 269) c) &&& gi M r 10) v = true ↔ v < D ∧ ¬ lsv g Y Z c v = -4) := by
    intro v hv
    obtain ⟨a1, a2⟩ := cy c hc v hv
    rw [b_and, b_or, Bool.and_eq_true, Bool.or_eq_true, a1, a2, lw v hv]
    unfold lsv vl2
    by_cases k : g v 0 = 5
    · rw [if_pos k]
      cases Y v c <;> cases Z v c <;> simp [k]
    · rw [if_neg k]
      exact ⟨fun z => absurd z.2.2 k, fun z => absurd rfl z.2⟩
  generalize eS : ((gi M (r + 205) c ||| gi M (r + 269) c) &&& gi M r 10) = S at sb
  have fin : ∀ ch day, LC (gi M (r + 205) c) (gi M (r + 269) c) ch day (lsS g Y Z lt c D) → vp_in (nI c) 64 ∧ vp_in (nI c) 64 ∧ CI mC_agreed [.int ((gi M (r + 205) (nI c).toNatClampNeg) &&& ch), .int ((gi M (r + 269) (nI c).toNatClampNeg) &&& ch)] M (fun rv N => X mLi_lawSaying 135 [] [.int rv] N (mC mLi_lawSaying, mS mLi_lawSaying) (QI K)) := by
    intro ch day hL
    refine ⟨vin hc (by decide), vin hc (by decide), sC_agreed (vLi_lawSaying_135 ?_)⟩
    rw [cc, lc_agr hL]
    exact h
  by_cases S0 : S = 0
  · have nn : ∀ i, i < D → lsv g Y Z c i = -4 := fun i hi => by
      by_cases z : lsv g Y Z c i = -4
      · exact z
      · have := (sb i (by omega)).mpr ⟨hi, z⟩
        rw [S0, b_0] at this
        exact absurd this (by decide)
    refine vLi_lawSaying_21 hl.1 (lr3 hl) (lr4 hl) ⟨fun _ => fin 0 (-4) (Or.inl ⟨lsS_n nn D (Nat.le_refl D), rfl⟩), fun q => absurd S0 q.2⟩
  · refine lp D (P := fun i => ∀ ch day, LC (gi M (r + 205) c) (gi M (r + 269) c) ch day (lsS g Y Z lt c i) → X mLi_lawSaying 21 [(0, .ref r), (1, .int (nI c)), (2, .int b), (3, .int S), (4, .int ch), (5, .int day), (6, .int (nI i))] [] M (mC mLi_lawSaying, mS mLi_lawSaying) (QI K)) (fun i hi ih ch day hL => ?_) (fun ch day hL => ?_) 0 (-4) (Or.inl ⟨rfl, rfl⟩)
    · refine vLi_lawSaying_21 hl.1 (lr3 hl) (lr4 hl) ⟨fun q => ?_, fun _ => sC_holds (vLi_lawSaying_40 hl.1 (lr0 hl) ⟨fun q => ?_, fun q => ⟨ld_v l hi, r + 776 + 64 * i, ld_gw l (by omega), ?_⟩⟩)⟩
      · exfalso
        rcases q with q | q
        · exact ld_le l hi q
        · exact S0 q.2
      · have nl : lsv g Y Z c i = -4 := by
          by_cases z : lsv g Y Z c i = -4
          · exact z
          · exfalso
            rw [if_pos ((bitu _ (by omega)).mpr ((sb i (by omega)).mpr ⟨hi, z⟩))] at q
            exact absurd q (by decide)
        have e : lsS g Y Z lt c (i + 1) = lsS g Y Z lt c i := by rw [lsS, if_pos (Or.inl nl)]
        rw [e] at ih
        rw [nI_s]; exact ih _ _ hL
      · have yl : ¬ lsv g Y Z c i = -4 := by
          by_cases z : bt S i = true
          · exact ((sb i (by omega)).mp z).2
          · exfalso
            rw [if_neg (fun y => z ((bitu _ (by omega)).mp y))] at q
            exact q rfl
        have k5 : g i 0 = 5 := by
          by_cases z : g i 0 = 5
          · exact z
          · exfalso; unfold lsv at yl; rw [if_neg z] at yl; exact yl rfl
        rw [ed i hi k5]
        obtain ⟨y1, y2⟩ := cy c hc i (by omega)
        have hv : (lsv g Y Z c i = 1 ∧ bt (gi M (r + 205) c) i = true ∧ bt (gi M (r + 269) c) i = false) ∨ (lsv g Y Z c i = 0 ∧ bt (gi M (r + 205) c) i = false ∧ bt (gi M (r + 269) c) i = true) := by
          have x := xc i c
          rw [y1, y2]
          unfold lsv vl2 at yl ⊢
          rw [if_pos k5] at yl ⊢
          revert yl x
          cases Y i c <;> cases Z i c <;> decide
        -- is it better
        have bet : (ch = 0 ∨ (¬ ch = 0 ∧ b = 0 ∧ ¬ day ≤ g i 7) ∨ (¬ ch = 0 ∧ ¬ b = 0 ∧ ¬ g i 7 ≤ day)) ↔ lsb g lt i (lsS g Y Z lt c i) := by
          rcases hL with ⟨e, z⟩ | ⟨a1, a2, a3, -⟩
          · exact ⟨fun _ => Or.inl (by rw [e]), fun _ => Or.inl z⟩
          · rw [a3]
            constructor
            · rintro (z | z | z)
              · exact absurd z a2
              · exact Or.inr (Or.inr ⟨fun y => hb.mpr y z.2.1, z.2.2⟩)
              · exact Or.inr (Or.inl ⟨hb.mp z.2.1, z.2.2⟩)
            · rintro (z | z | z)
              · exact absurd z a1
              · exact Or.inr (Or.inr ⟨a2, hb.mpr z.1, z.2⟩)
              · refine Or.inr (Or.inl ⟨a2, ?_, z.2⟩)
                by_cases y : b = 0
                · exact y
                · exact absurd (hb.mp y) z.1
        refine ⟨fun p => vLi_lawSaying_88 ?_, fun p => vLi_lawSaying_88 ?_⟩
        · have bb := bet.mp p
          have e : lsS g Y Z lt c (i + 1) = (lsv g Y Z c i, g i 7, 0) := by
            rw [lsS, if_neg (fun z => z.elim yl (fun z => z.1 bb)), if_pos (Or.inl bb)]
          rw [e] at ih
          rw [nI_s, if_pos rfl]
          exact ih _ _ (lc_better (by omega) hv)
        · have nb : ¬ lsb g lt i (lsS g Y Z lt c i) := fun z => by
            rcases bet.mpr z with y | y | y
            · rcases p with p | p <;> exact p.1 y
            · rcases p with p | p
              · exact y.2.2 p.2.2
              · exact p.2.1 y.2.1
            · rcases p with p | p
              · exact y.2.1 p.2.1
              · exact y.2.2 p.2.2
          have cn : ¬ ch = 0 := by rcases p with p | p <;> exact p.1
          have dd : day = (lsS g Y Z lt c i).2.1 := by
            rcases hL with ⟨-, z⟩ | ⟨-, -, a3, -⟩
            · exact absurd z cn
            · exact a3
          by_cases sd : g i 7 = day
          · have e : lsS g Y Z lt c (i + 1) = (lsv g Y Z c i, day, if (lsS g Y Z lt c i).2.2 = 0 ∧ lsv g Y Z c i = (lsS g Y Z lt c i).1 then 0 else 1) := by
              rw [lsS, if_neg (fun z => z.elim yl (fun z => z.2 (sd.trans dd)))]
              by_cases w : (lsS g Y Z lt c i).2.2 = 0 ∧ lsv g Y Z c i = (lsS g Y Z lt c i).1
              · rw [if_pos (Or.inr w), if_pos w, sd]
              · rw [if_neg (fun z => z.elim nb w), if_neg w, sd]
            rw [e] at ih
            rw [nI_s, if_pos sd]
            exact ih _ _ (lc_same (by omega) hv cn hL)
          · have e : lsS g Y Z lt c (i + 1) = lsS g Y Z lt c i := by
              rw [lsS, if_pos (Or.inr ⟨nb, fun z => sd (z.trans dd.symm)⟩)]
            rw [e] at ih
            rw [nI_s, if_neg sd, or_032]
            exact ih _ _ hL
    · exact vLi_lawSaying_21 hl.1 (lr3 hl) (lr4 hl) ⟨fun _ => fin ch day hL, fun q => absurd (ld_se l) q.1⟩
theorem eS_askLaws {K : Mm → Prop} (l : LD M r D) (ed : ∀ w, w < D → g w 0 = 5 → gi M (r + 776 + 64 * w) 8 = g w 7) (lw : ∀ v, v < 32 → (bt (gi M r 10) v = true ↔ v < D ∧ g v 0 = 5)) (cy : CY M r Y Z) (xc : ∀ v c, ¬ (Y v c = true ∧ Z v c = true)) (h : ∀ N, F7 r M N → (∀ c, c < 64 → gi N (r + 333) c = lsV g Y Z true c D ∧ gi N (r + 397) c = lsV g Y Z false c D) → K N) : CV mLi_askLaws [.ref r] M K := by
  have hl := l.1
  refine call_of rfl (Nat.le_of_ble_eq_true rfl) rfl (vLi_askLaws_0 ?_)
  have edN : ∀ {N}, F7 r M N → ∀ w, w < D → g w 0 = 5 → gi N (r + 776 + 64 * w) 8 = g w 7 := fun f w hw k => by rw [f.2.2 _ (by omega) (by omega)]; exact ed w hw k
  have lwN : ∀ {N}, F7 r M N → ∀ v, v < 32 → (bt (gi N r 10) v = true ↔ v < D ∧ g v 0 = 5) := fun f v hv => by rw [f.2.2 r (by omega) (by omega)]; exact lw v hv
  have cyN : ∀ {N}, F7 r M N → CY N r Y Z := fun f c hc v hv => by rw [f.2.2 _ (by omega) (by omega), f.2.2 _ (by omega) (by omega)]; exact cy c hc v hv
  refine lp 64 (P := fun c => ∀ N, F7 r M N → (∀ e, e < c → gi N (r + 333) e = lsV g Y Z true e D ∧ gi N (r + 397) e = lsV g Y Z false e D) → X mLi_askLaws 2 [(0, .ref r), (1, .int (nI c))] [] N (mC mLi_askLaws, mS mLi_askLaws) (QV K)) (fun c hc ih N fN wN => ?_) (fun N fN wN => ?_) _ (f7_rf r M) (fun e he => absurd he (by omega))
  · have lN := ld_st (f7_st fN) l
    have cc : (nI c).toNatClampNeg = c := ncl (by omega)
    refine vLi_askLaws_2 hl.1 (lr5 lN.1) ⟨fun q => absurd q (nge rfl (by decide) hc), fun _ => eS_lawSaying (lt := true) lN hc ⟨fun _ => rfl, fun _ => by decide⟩ (edN fN) (lwN fN) (cyN fN) xc (vLi_askLaws_19 (lrk hl 333 14 rfl (by decide)) hl.1 (lr6 lN.1) ⟨vin hc (by decide), ?_⟩)⟩
    rw [cc]
    have f1 : F7 r M (si N (r + 333) c (lsV g Y Z true c D)) := f7_si (Or.inl rfl) fN
    refine eS_lawSaying (lt := false) (ld_st (f7_st f1) l) hc ⟨fun z => absurd rfl z, fun z => absurd z (by decide)⟩ (edN f1) (lwN f1) (cyN f1) xc (vLi_askLaws_31 (lrk hl 397 14 rfl (by decide)) ⟨vin hc (by decide), ?_⟩)
    rw [cc, nI_s]
    refine ih _ (f7_si (Or.inr rfl) f1) (fun e he => ?_)
    rw [giR _ _ _ _ _ _ (show r + 333 ≠ r + 397 by omega), gxs, gxs, giR _ _ _ _ _ _ (show r + 397 ≠ r + 333 by omega)]
    by_cases z : e = c
    · subst z
      rw [if_pos rfl, if_pos rfl]; exact ⟨rfl, rfl⟩
    · rw [if_neg z, if_neg z]; exact wN e (by omega)
  · exact vLi_askLaws_2 hl.1 (lr5 (ld_st (f7_st fN) l).1) ⟨fun _ => h N fN wN, fun q => absurd (nself rfl) q⟩
end ES4
end MG68
section MG69
/-! ===== the class's settling: all that it leaves ===== -/
/-- weights, laws, steps of a library that is settled -/
def WL (N : Mm) (r : Nat) (g : Nat → Nat → Int32) (D : Nat) : Prop := D ≤ 24 ∧ WT N r g (unsd g D) D ∧ (∀ c, c < 64 → gi N (r + 333) c = lsV g (said g D).2.1 (said g D).2.2 true c D ∧ gi N (r + 397) c = lsV g (said g D).2.1 (said g D).2.2 false c D) ∧ ∀ w, w < D → (bt (unsd g D) w = true → gi N (r + 776 + 64 * w) 10 = -4) ∧ (bt (unsd g D) w = false → (∃ k, k < 7 ∧ wgv g w = nI k) ∧ ∃ n, n < D ∧ chs g n w ∧ gi N (r + 776 + 64 * w) 10 = nI n)
theorem said_x (g : Nat → Nat → Int32) {D : Nat} (hD : D ≤ 24) (v c : Nat) : ¬ ((said g D).2.1 v c = true ∧ (said g D).2.2 v c = true) := (si_spR (g := g) (u := unsd g D) (W := D) (by omega) si_0 D).2 v c
theorem wl_eq {M N : Mm} {r D : Nat} {g : Nat → Nat → Int32} (h : ∀ a, (r ≤ a ∧ a < r + 2304 ∧ a ≠ r + 140) → gi N a = gi M a) (w : WL M r g D) : WL N r g D := by
  obtain ⟨w0, w1, w2, w3⟩ := w
  refine ⟨w0, fun k hk v hv => ?_, fun c hc => ?_, fun x hx => ?_⟩
  · rw [h (r + 590) (by omega)]; exact w1 k hk v hv
  · rw [h (r + 333) (by omega), h (r + 397) (by omega)]; exact w2 c hc
  · rw [h (r + 776 + 64 * x) (by omega)]; exact w3 x hx
section ES5
variable {M : Mm} {r D : Nat}
theorem eS_settle {K : Mm → Prop} {g : Nat → Nat → Int32} (l : LD M r D) (eg : ∀ w, w < D → ∀ i, i < 7 → gi M (r + 776 + 64 * w) i = g w i) (ed : ∀ w, w < D → gi M (r + 776 + 64 * w) 8 = g w 7) (z10 : ∀ w, w < D → gi M (r + 776 + 64 * w) 10 = 0) (rf : ∀ w, w < D → RF g w) (rs : ∀ w, w < D → RS6 g D w) (md : ∀ w, w < D → MD g w) (h : ∀ N, ST r M N → SE N r g D → WL N r g D → K N) : CV mLi_settle [.ref r] M K := by
  have hl := l.1
  have hD := l.2.2.1
  have egN : ∀ {N}, ST r M N → ∀ w, w < D → ∀ i, i < 7 → gi N (r + 776 + 64 * w) i = g w i := fun s w hw i hi => by rw [s.2.2.2.1 w (by omega) i (by omega)]; exact eg w hw i hi
  have edN : ∀ {N}, ST r M N → ∀ w, w < D → gi N (r + 776 + 64 * w) 8 = g w 7 := fun s w hw => by rw [s.2.2.2.1 w (by omega) 8 (by omega)]; exact ed w hw
  have r6 : ∀ w, w < D → g w 6 = -4 ∨ ∃ f, f < D ∧ g w 6 = nI f := fun w hw => by
    rcases (rs w hw).1 with z | ⟨-, f, hf, -, e⟩
    · exact Or.inl z.2
    · exact Or.inr ⟨f, hf, e⟩
  refine call_of rfl (Nat.le_of_ble_eq_true rfl) rfl (vLi_settle_0 hl.1 (eS_sortWords l (fun N1 s1 w1 z1 => vLi_settle_4 hl.1 ?_)))
  have w1' : SW N1 r g D := sw_cg (fun a _ k _ _ => rfl) (fun w hw i hi => eg w hw i hi) w1
  refine eS_findFollowed (ld_st s1 l) w1' (egN s1) rf (fun N2 f2 w2 => vLi_settle_8 hl.1 ?_)
  have s2 := st_tr s1 (f2_st f2)
  have w2' : SW N2 r g D := sw_cg (fun a ha k _ _ => by rw [f2.2.2 a (by omega) (by omega)]) (fun _ _ _ _ => rfl) w1'
  refine eS_findRings (R := fowg g) (ld_st s2 l) (fun w hw => (w2 w hw).2) (fun N3 f3 _ e12 e13 => vLi_settle_12 hl.1 ?_)
  have s3 := st_tr s2 (f3_st f3)
  have w3' : SW N3 r g D := sw_cg (fun a ha k k1 k2 => by
    by_cases e : a = r
    · rw [e]; exact f3.2.2.2 k k1 k2
    · rw [f3.2.2.1 a e (by omega)]) (fun _ _ _ _ => rfl) w2'
  have z3 : ∀ w, w < D → gi N3 (r + 776 + 64 * w) 10 = 0 := fun w hw => by
    rw [f3.2.2.1 _ (by omega) (by omega), f2.2.2 _ (by omega) (by omega), z1 w (by omega)]; exact z10 w hw
  refine eS_speakInOrder (g := g) (u := unsd g D) (ld_st s3 l) e13 (fun w hw => by rw [f3.2.2.1 _ (by omega) (by omega)]; exact (w2 w hw).1) (egN s3) rs (fun w hw z v hv e => us_of hD hw z hv e) z3 (fun N4 f4 c4 t4 => vLi_settle_16 hl.1 ?_)
  have s4 := st_tr s3 (f5_st f4)
  have e4 : ∀ a, (a = r ∨ a = r + 460 ∨ a = r + 524) → gi N4 a = gi N3 a := fun a ha => f4.2.2.1 a (by omega) (by omega) (fun w hw => by omega)
  have u4 : gi N4 r 13 = unsd g D := by rw [e4 r (by omega)]; exact e13
  refine eS_weighAll (g := g) (u := unsd g D) (ld_st s4 l) (egN s4) u4 (fun w hw z => chs_ex hD rs hw z) (fun w hw z => ?_) (fun N5 f5 t5 => vLi_settle_20 hl.1 ?_)
  · exact md_w (md _ (eng_cg hD (fun _ _ => rfl) r6 25 w hw).2)
  have s5 := st_tr s4 (f6_st f5)
  have g5 : ∀ a, (a = r ∨ a = r + 205 ∨ a = r + 269 ∨ a = r + 460 ∨ a = r + 524) → gi N5 a = gi N4 a := fun a ha => f5.2.2.1 a (by omega) (fun w hw => by omega)
  have c5 : CY N5 r (said g D).2.1 (said g D).2.2 := fun c hc v hv => by
    rw [g5 (r + 205) (by omega), g5 (r + 269) (by omega)]; exact c4 c hc v hv
  have w5 : SW N5 r g D := sw_cg (fun a ha k _ _ => by rw [g5 a (by omega), e4 a ha]) (fun _ _ _ _ => rfl) w3'
  refine eS_askLaws (g := g) (ld_st s5 l) (fun w hw _ => edN s5 w hw) w5.2.2.1 c5 (said_x g hD) (fun N6 f6 q6 => vLi_settle_24 (h N6 (st_tr s5 (f7_st f6)) ⟨?_, ?_, ?_, ?_⟩ ⟨hD, ?_, q6, fun w hw => ?_⟩))
  · exact sw_cg (fun a ha k _ _ => by rw [f6.2.2 a (by omega) (by omega)]) (fun _ _ _ _ => rfl) w5
  · rw [f6.2.2 r (by omega) (by omega), g5 r (by omega), e4 r (by omega)]; exact e12
  · rw [f6.2.2 r (by omega) (by omega), g5 r (by omega)]; exact u4
  · intro c hc v hv
    rw [f6.2.2 (r + 205) (by omega) (by omega), f6.2.2 (r + 269) (by omega) (by omega)]
    exact c5 c hc v hv
  · intro k hk v hv
    rw [f6.2.2 (r + 590) (by omega) (by omega)]; exact t5 k hk v hv
  · have e : gi N6 (r + 776 + 64 * w) 10 = gi N4 (r + 776 + 64 * w) 10 := by
      rw [f6.2.2 _ (by omega) (by omega), f5.2.2.2 w (by omega) 10 (by decide)]
    rw [e]
    refine ⟨(t4 w hw).1, fun z => ?_⟩
    obtain ⟨n, a, b⟩ := (t4 w hw).2 z (said_all hD rs hw z)
    obtain ⟨m, hm, c⟩ := chs_ex hD rs hw z
    have : n = m := chs_u n m w a c
    exact ⟨md_w (md _ (eng_cg hD (fun _ _ => rfl) r6 25 w hw).2), n, by omega, a, b⟩
end ES5
end MG69
section MG70
/-! ===== the class weighs: exact ===== -/
def WH (M : Mm) (L R : Nat) : Prop := gr M 5192 0 = some L ∧ gr M 5192 1 = some R ∧ gr M 5192 3 = some 5261 ∧ LR M L ∧ R % 64 = 3
def agr (y n : Int32) : Int32 := if n = 0 then (if y = 0 then -4 else 1) else (if y = 0 then 0 else -4)
/-- the heaviest of some words, of weights below k -/
def hvs (M : Mm) (L : Nat) (ws fw : Int32) : Nat → Int32
  | 0 => 0
  | k + 1 => if (ws &&& (gi M (L + 590) k ||| (if nI k = fw then 16777216 else 0))) = 0 then hvs M L ws fw k else ws &&& (gi M (L + 590) k ||| (if nI k = fw then 16777216 else 0))
def stl (M : Mm) (L R : Nat) (y n fw : Int32) : Int32 := if y = 0 ∨ n = 0 then agr y n else if gi M R 3 = 1 then (if y ≤ n then 0 else 1) else if gi M R 3 = 2 then agr (y &&& hvs M L (y ||| n) fw 7) (n &&& hvs M L (y ||| n) fw 7) else -4
def his (M : Mm) (L d : Nat) : Int32 := gi M (L + 460) d &&& gi M 5192 2
def opn (M : Mm) (L R d c : Nat) : Int32 := stl M L R (his M L d &&& gi M (L + 205) c) (his M L d &&& gi M (L + 269) c) 0
/-- what weighing may change -/
def WQ (M N : Mm) : Prop := gr N = gr M ∧ gl N = gl M ∧ (∀ a, ¬ (a = 5192 ∨ a = 5261) → gi N a = gi M a) ∧ gi N 5192 2 = gi M 5192 2
theorem wq_rf (M : Mm) : WQ M M := ⟨rfl, rfl, fun _ _ => rfl, rfl⟩
theorem wq_tr {M N O : Mm} (f : WQ M N) (g : WQ N O) : WQ M O := ⟨g.1.trans f.1, g.2.1.trans f.2.1, fun a h => (g.2.2.1 a h).trans (f.2.2.1 a h), g.2.2.2.trans f.2.2.2⟩
theorem wq_si {M : Mm} {a j : Nat} {v : Int32} (h : (a = 5192 ∧ j ≠ 2) ∨ a = 5261) : WQ M (si M a j v) := by
  refine ⟨rfl, rfl, fun b n => gi_ne (fun e => n (by omega)), ?_⟩
  rw [gi_si, if_neg (fun e => by omega)]
theorem wh_gr {M N : Mm} {L R : Nat} (w : WH M L R) (e : gr N = gr M) : WH N L R := ⟨by rw [e]; exact w.1, by rw [e]; exact w.2.1, by rw [e]; exact w.2.2.1, lr_gr w.2.2.2.1 e, w.2.2.2.2⟩
/-- a library lies away from what weighing changes -/
def LA (L : Nat) : Prop := L = 385 ∨ L = 2689
def RA (R : Nat) : Prop := R = 4995 ∨ R = 5059 ∨ R = 5123
section CW1
variable {M N : Mm} {L R : Nat}
theorem la_ne (h : LA L) {o : Nat} (ho : o < 2304) : ¬ (L + o = 5192 ∨ L + o = 5261) := by unfold LA at h; omega
theorem ra_ne (h : RA R) : ¬ (R = 5192 ∨ R = 5261) := by unfold RA at h; omega
theorem hvs_wq (f : WQ M N) (hL : LA L) (ws fw : Int32) : ∀ k, hvs N L ws fw k = hvs M L ws fw k
  | 0 => rfl
  | k + 1 => by rw [hvs, hvs, hvs_wq f hL ws fw k, f.2.2.1 (L + 590) (la_ne hL (by decide))]
theorem stl_wq (f : WQ M N) (hL : LA L) (hR : RA R) (y n fw : Int32) : stl N L R y n fw = stl M L R y n fw := by
  unfold stl; rw [hvs_wq f hL, f.2.2.1 R (ra_ne hR)]
theorem his_wq (f : WQ M N) (hL : LA L) (d : Nat) : his N L d = his M L d := by unfold his; rw [f.2.2.1 (L + 460) (la_ne hL (by decide)), f.2.2.2]
theorem opn_wq (f : WQ M N) (hL : LA L) (hR : RA R) (d c : Nat) : opn N L R d c = opn M L R d c := by
  unfold opn; rw [stl_wq f hL hR, his_wq f hL, f.2.2.1 (L + 205) (la_ne hL (by decide)), f.2.2.1 (L + 269) (la_ne hL (by decide))]
theorem sWe_heaviest {ws fw : Int32} {K : Int32 → Mm → Prop} (w : WH M L R) (h : K (hvs M L ws fw 7) M) : CI mWe_heaviest [.ref 5192, .int ws, .int fw] M K := by
  refine call_of rfl (Nat.le_of_ble_eq_true rfl) rfl (vWe_heaviest_0 ?_)
  have key : ∀ k, k ≤ 7 → K (hvs M L ws fw k) M → X mWe_heaviest 3 [(0, .ref 5192), (1, .int ws), (2, .int fw), (3, .int (nI k + (-1)))] [] M (mC mWe_heaviest, mS mWe_heaviest) (QI K) := by
    intro k
    induction k with
    | zero =>
      intro _ h
      have l : nI 0 + (-1) < 0 := by decide
      exact vWe_heaviest_3 rfl w.1 (lr9 w.2.2.2.1) ⟨fun q => absurd l q, fun _ => h, fun q => absurd l q.1, fun q => absurd l q.1⟩
    | succ k ih =>
      intro hk h
      have e : nI (k + 1) + (-1) = nI k := pk_m1 k
      rw [e]
      rw [hvs] at h
      have b28 : ∀ x, x = (if nI k = fw then 16777216 else 0) → X mWe_heaviest 28 [(0, .ref 5192), (1, .int ws), (2, .int fw), (3, .int (nI k))] [.int x, .int (gi M (L + 590) k), .int ws] M (mC mWe_heaviest, mS mWe_heaviest) (QI K) := by
        rintro x rfl
        refine vWe_heaviest_28 ⟨fun q => ?_, fun q => ?_⟩
        · rw [if_pos q] at h
          exact ih (by omega) h
        · rw [if_neg q] at h; exact h
      refine vWe_heaviest_3 rfl w.1 (lr9 w.2.2.2.1) ⟨fun _ => vin (by omega) (by decide), fun q => absurd q (n0 k (by omega)), fun q => ?_, fun q => ?_⟩
      · rw [ncl (by omega)]; exact b28 0 (by rw [if_neg q.2])
      · rw [ncl (by omega)]; exact b28 _ (by rw [if_pos q.2])
  exact key 7 (Nat.le_refl _) h
theorem sWe_settled {y n fw : Int32} {K : Int32 → Mm → Prop} (w : WH M L R) (h : K (stl M L R y n fw) M) : CI mWe_settled [.ref 5192, .int y, .int n, .int fw] M K := by
  unfold stl at h
  refine call_of rfl (Nat.le_of_ble_eq_true rfl) rfl (vWe_settled_0 rfl w.2.1 ⟨fun q => sC_agreed (vWe_settled_13 ?_), fun q => ?_, fun q => sWe_heaviest w (vWe_settled_55 (sC_agreed (vWe_settled_68 ?_))), fun q => ?_, fun q => ?_⟩)
  · rw [if_pos (q.imp id (fun q => q.2))] at h; exact h
  · rw [if_neg (fun z => z.elim q.1 q.2.1), if_neg q.2.2.1, if_neg q.2.2.2] at h; exact h
  · rw [if_neg (fun z => z.elim q.1 q.2.1), if_neg q.2.2.1, if_pos q.2.2.2] at h; exact h
  · rw [if_neg (fun z => z.elim q.1 q.2.1), if_pos q.2.2.1, if_pos q.2.2.2] at h; exact h
  · rw [if_neg (fun z => z.elim q.1 q.2.1), if_pos q.2.2.1, if_neg q.2.2.2] at h; exact h
theorem sWe_opinion {d c : Nat} {K : Int32 → Mm → Prop} (w : WH M L R) (hd : d < 8) (hc : c < 64) (h : K (opn M L R d c) M) : CI mWe_opinion [.ref 5192, .int (nI d), .int (nI c)] M K := by
  have l := w.2.2.2.1
  refine call_of rfl (Nat.le_of_ble_eq_true rfl) rfl (vWe_opinion_0 rfl w.1 (lr7 l) (lr3 l) (lr4 l) ⟨vin hd (by decide), vin hc (by decide), vin hc (by decide), ?_⟩)
  rw [ncl (show d < 2 ^ 31 by omega), ncl (show c < 2 ^ 31 by omega)]
  exact sWe_settled w (vWe_opinion_42 h)
def cls (M : Mm) (L d c : Nat) : Int32 := if (his M L d &&& gi M (L + 205) c) = 0 ∨ (his M L d &&& gi M (L + 269) c) = 0 then 0 else 1
theorem sWe_clashes {d c : Nat} {K : Int32 → Mm → Prop} (w : WH M L R) (hd : d < 8) (hc : c < 64) (h : K (cls M L d c) M) : CI mWe_clashes [.ref 5192, .int (nI d), .int (nI c)] M K := by
  have l := w.2.2.2.1
  have cd : (nI d).toNatClampNeg = d := ncl (by omega)
  have cc : (nI c).toNatClampNeg = c := ncl (by omega)
  unfold cls his at h
  refine call_of rfl (Nat.le_of_ble_eq_true rfl) rfl (vWe_clashes_0 rfl w.1 (lr7 l) (lr3 l) (lr4 l) ⟨vin hd (by decide), vin hc (by decide), fun _ => vin hc (by decide), fun q => ?_, fun q => ?_⟩)
  · rw [cd, cc] at q
    rw [if_pos (q.imp id (fun q => q.2))] at h; exact h
  · rw [cd, cc] at q
    rw [if_neg (fun z => z.elim q.1 q.2)] at h; exact h
def lwI (M : Mm) (L R c : Nat) : Int32 := if gi M R 6 = 0 then -4 else if gi M R 6 = 2 then gi M (L + 397) c else gi M (L + 333) c
theorem sWe_lawIn {c : Nat} {K : Int32 → Mm → Prop} (w : WH M L R) (hc : c < 64) (h : K (lwI M L R c) M) : CI mWe_lawIn [.ref 5192, .int (nI c)] M K := by
  have l := w.2.2.2.1
  have cc : (nI c).toNatClampNeg = c := ncl (by omega)
  unfold lwI at h
  refine call_of rfl (Nat.le_of_ble_eq_true rfl) rfl (vWe_lawIn_0 rfl w.2.1 w.1 (lr5 l) (lr6 l) ⟨fun _ => vin hc (by decide), fun _ => vin hc (by decide), fun q => ?_, fun q => ?_, fun q => ?_⟩)
  · rw [if_neg q.1, if_neg q.2] at h; rw [cc]; exact h
  · rw [if_neg q.1, if_pos q.2] at h; rw [cc]; exact h
  · rw [if_pos q] at h; exact h
/-- what the head says, by opinions o -/
def hds (hd : Int32) (o : Nat → Int32) : Int32 := if hd < 0 ∨ 8 ≤ hd then -4 else o hd.toNatClampNeg
theorem sWe_headSaying {K : Int32 → Mm → Prop} (w : WH M L R) (h : K (hds (gi M R 4) (gi M 5261)) M) : CI mWe_headSaying [.ref 5192] M K := by
  unfold hds at h
  refine call_of rfl (Nat.le_of_ble_eq_true rfl) rfl (vWe_headSaying_0 rfl w.2.1 w.2.2.1 ⟨fun q => ?_, fun q => ?_, fun q => ?_⟩)
  · obtain ⟨k, hk, ek⟩ := rng (c := 8) (n := 8) rfl (by decide) q.1 q.2
    rw [ek]; exact vin hk (by decide)
  · rw [if_pos (q.imp id (fun q => q.2))] at h; exact h
  · rw [if_neg (fun z => z.elim q.1 q.2)] at h; exact h
theorem sWe_decider {y n hd : Int32} {K : Int32 → Mm → Prop} (w : WH M L R) (h : K (byf (gi M 5192 5) y n hd (gi M R 5)) M) : CI mWe_decider [.ref 5192, .int y, .int n, .int hd] M K := by
  unfold byf at h
  refine call_of rfl (Nat.le_of_ble_eq_true rfl) rfl (vWe_decider_0 rfl w.2.1 ⟨fun q => ?_, fun q => ?_, fun q => ?_, fun q => ?_, fun q => ?_⟩)
  · rw [if_pos q.1, if_pos q.2.1, if_pos q.2.2.1, if_pos q.2.2.2] at h; exact h
  · rw [if_pos q.1, if_pos q.2.1, if_pos q.2.2.1, if_neg q.2.2.2] at h; exact h
  · rw [if_pos q.1, if_pos q.2.1, if_neg q.2.2] at h; exact h
  · rw [if_pos q.1, if_neg q.2] at h; exact h
  · rw [if_neg q] at h; exact h
def anb (b l y n hd si : Int32) : Int32 := if b = 1 then l else if b = 2 then (if y ≤ n then 0 else 1) else if b = 3 then hd else if b = 4 then si else -4
theorem sWe_answerBy {b y n hd : Int32} {K : Int32 → Mm → Prop} (w : WH M L R) (h : K (anb b (gi M 5192 5) y n hd (gi M R 5)) M) : CI mWe_answerBy [.ref 5192, .int b, .int y, .int n, .int hd] M K := by
  unfold anb at h
  refine call_of rfl (Nat.le_of_ble_eq_true rfl) rfl (vWe_answerBy_0 rfl w.2.1 ⟨fun q => ?_, fun q => ?_, fun q => ?_, fun q => ?_, fun q => ?_⟩)
  · rw [if_pos q] at h; exact h
  · subst q; exact h
  · subst q; exact h
  · subst q; exact h
  · rw [if_neg q.1, if_neg q.2.1, if_neg q.2.2.1, if_neg q.2.2.2] at h; exact h
/-- how many of the first k doctors say v -/
def ocn (o : Nat → Int32) (v : Int32) : Nat → Int32
  | 0 => 0
  | k + 1 => ocn o v k + (if o k = v then 1 else 0)
/-- what is weighed -/
def WV (M : Mm) (L R c : Nat) (N : Mm) : Prop := gi N 5192 4 = nI c ∧ gi N 5192 5 = lwI M L R c ∧ (∀ d, d < 8 → gi N 5261 d = opn M L R d c) ∧ gi N 5192 6 = ocn (fun d => opn M L R d c) 1 8 ∧ gi N 5192 7 = ocn (fun d => opn M L R d c) 0 8 ∧ gi N 5192 8 = byf (lwI M L R c) (ocn (fun d => opn M L R d c) 1 8) (ocn (fun d => opn M L R d c) 0 8) (hds (gi M R 4) (fun d => opn M L R d c)) (gi M R 5) ∧ gi N 5192 9 = anb (byf (lwI M L R c) (ocn (fun d => opn M L R d c) 1 8) (ocn (fun d => opn M L R d c) 0 8) (hds (gi M R 4) (fun d => opn M L R d c)) (gi M R 5)) (lwI M L R c) (ocn (fun d => opn M L R d c) 1 8) (ocn (fun d => opn M L R d c) 0 8) (hds (gi M R 4) (fun d => opn M L R d c)) (gi M R 5)
theorem g5 (M : Mm) (k i : Nat) (v : Int32) (h : i ≠ k) : gi (si M 5192 k v) 5192 i = gi M 5192 i := by rw [gi_si, if_neg (fun q => h q.2)]
theorem g5s (M : Mm) (k : Nat) (v : Int32) : gi (si M 5192 k v) 5192 k = v := by rw [gi_si, if_pos ⟨rfl, rfl⟩]
theorem hds_cg {hd : Int32} {o o' : Nat → Int32} (h : ∀ d, d < 8 → o d = o' d) : hds hd o = hds hd o' := by
  unfold hds
  by_cases q : hd < 0 ∨ 8 ≤ hd
  · rw [if_pos q, if_pos q]
  · rw [if_neg q, if_neg q]
    obtain ⟨k, hk, ek⟩ := rng (c := 8) (n := 8) rfl (by decide) (fun z => q (Or.inl z)) (fun z => q (Or.inr z))
    rw [ek, ncl (by omega)]; exact h k hk
theorem eWe_weigh {c : Nat} {K : Mm → Prop} (w : WH M L R) (hL : LA L) (hR : RA R) (hc : c < 64) (h : ∀ N, WQ M N → WV M L R c N → K N) : CV mWe_weigh [.ref 5192, .int (nI c)] M K := by
  have nR := ra_ne hR
  refine call_of rfl (Nat.le_of_ble_eq_true rfl) rfl (vWe_weigh_0 rfl ?_)
  have q0 : WQ M (si M 5192 4 (nI c)) := wq_si (Or.inl ⟨rfl, by decide⟩)
  have el : lwI (si M 5192 4 (nI c)) L R c = lwI M L R c := by
    unfold lwI; rw [q0.2.2.1 R nR, q0.2.2.1 (L + 397) (la_ne hL (by decide)), q0.2.2.1 (L + 333) (la_ne hL (by decide))]
  refine sWe_lawIn (wh_gr w q0.1) hc (vWe_weigh_11 rfl rfl ?_)
  rw [el]
  have q1 : WQ M (si (si (si (si M 5192 4 (nI c)) 5192 5 (lwI M L R c)) 5192 6 0) 5192 7 0) := wq_tr q0 (wq_tr (wq_si (Or.inl ⟨rfl, by decide⟩)) (wq_tr (wq_si (Or.inl ⟨rfl, by decide⟩)) (wq_si (Or.inl ⟨rfl, by decide⟩))))
  have key := lp 8 (P := fun d => ∀ N, WQ M N → gi N 5192 4 = nI c → gi N 5192 5 = lwI M L R c → (∀ e, e < d → gi N 5261 e = opn M L R e c) → gi N 5192 6 = ocn (fun d => opn M L R d c) 1 d → gi N 5192 7 = ocn (fun d => opn M L R d c) 0 d → X mWe_weigh 26 [(0, .ref 5192), (1, .int (nI c)), (2, .int (nI d))] [] N (mC mWe_weigh, mS mWe_weigh) (QV K)) (fun d hd ih N qN n4 n5 no n6 n7 => ?_) (fun N qN n4 n5 no n6 n7 => ?_)
  · refine key _ q1 ?_ ?_ (fun e he => absurd he (by omega)) ?_ ?_
    · rw [g5 _ _ _ _ (by decide), g5 _ _ _ _ (by decide), g5 _ _ _ _ (by decide), g5s]
    · rw [g5 _ _ _ _ (by decide), g5 _ _ _ _ (by decide), g5s]
    · rw [g5 _ _ _ _ (by decide), g5s]; rfl
    · rw [g5s]; rfl
  · have wN := wh_gr w qN.1
    refine vWe_weigh_26 rfl ⟨fun q => absurd q (nge rfl (by decide) hd), fun _ => sWe_opinion wN hd hc (vWe_weigh_38 rfl wN.2.2.1 ⟨vin hd (by decide), ?_⟩)⟩
    rw [opn_wq qN hL hR, ncl (by omega), nI_s]
    generalize eo : opn M L R d c = o
    have k : ∀ j, gi (si N 5261 d o) 5192 j = gi N 5192 j := fun j => by rw [giR _ _ _ _ _ _ (by decide)]
    rw [k, n6]
    have k7 : ∀ v, gi (si (si N 5261 d o) 5192 6 v) 5192 7 = gi N 5192 7 := fun v => by rw [g5 _ _ _ _ (by decide), k]
    rw [k7, n7]
    refine ih _ (wq_tr qN (wq_tr (wq_si (Or.inr rfl)) (wq_tr (wq_si (Or.inl ⟨rfl, by decide⟩)) (wq_si (Or.inl ⟨rfl, by decide⟩))))) ?_ ?_ (fun e he => ?_) ?_ ?_
    · rw [g5 _ _ _ _ (by decide), g5 _ _ _ _ (by decide), k, n4]
    · rw [g5 _ _ _ _ (by decide), g5 _ _ _ _ (by decide), k, n5]
    · rw [giR _ _ _ _ _ _ (by decide), giR _ _ _ _ _ _ (by decide), gi_si]
      by_cases z : e = d
      · rw [if_pos ⟨rfl, z⟩, z, eo]
      · rw [if_neg (fun y => z y.2)]; exact no e (by omega)
    · rw [g5 _ _ _ _ (by decide), g5s, ocn, eo]
    · rw [g5s, ocn, eo]
  · have wN := wh_gr w qN.1
    refine vWe_weigh_26 rfl ⟨fun _ => sWe_headSaying wN (vWe_weigh_93 rfl (sWe_decider wN (vWe_weigh_108 rfl rfl ?_))), fun q => absurd (nself rfl) q⟩
    rw [n5, n6, n7, qN.2.2.1 R nR, hds_cg (o' := fun d => opn M L R d c) no]
    generalize eb : byf (lwI M L R c) (ocn (fun d => opn M L R d c) 1 8) (ocn (fun d => opn M L R d c) 0 8) (hds (gi M R 4) (fun d => opn M L R d c)) (gi M R 5) = b
    rw [g5s, g5 _ _ _ _ (by decide), g5 _ _ _ _ (by decide), n6, n7]
    have wO : WH (si N 5192 8 b) L R := wh_gr wN rfl
    refine sWe_answerBy wO (vWe_weigh_129 rfl ?_)
    have qO : WQ M (si N 5192 8 b) := wq_tr qN (wq_si (Or.inl ⟨rfl, by decide⟩))
    rw [g5 _ _ _ _ (by decide), n5, qO.2.2.1 R nR]
    refine h _ (wq_tr qO (wq_si (Or.inl ⟨rfl, by decide⟩))) ⟨?_, ?_, fun d hd => ?_, ?_, ?_, ?_, ?_⟩
    · rw [g5 _ _ _ _ (by decide), g5 _ _ _ _ (by decide), n4]
    · rw [g5 _ _ _ _ (by decide), g5 _ _ _ _ (by decide), n5]
    · rw [giR _ _ _ _ _ _ (by decide), giR _ _ _ _ _ _ (by decide)]; exact no d hd
    · rw [g5 _ _ _ _ (by decide), g5 _ _ _ _ (by decide), n6]
    · rw [g5 _ _ _ _ (by decide), g5 _ _ _ _ (by decide), n7]
    · rw [g5 _ _ _ _ (by decide), g5s, eb]
    · rw [g5s, eb]
end CW1
end MG70
section MG71
/-! ===== the class: which words count; weighing begins; what follows from weighing ===== -/
section CW2
variable {M N : Mm} {L R : Nat}
def mwd (M : Mm) (L R : Nat) : Nat → Int32
  | 0 => 0
  | k + 1 => mwd M L R k ||| (if ((ushr (gi M R 0) (nI k)) &&& 1) = 1 then gi M (L + 460) k else 0)
theorem sLi_mainWords {K : Int32 → Mm → Prop} (hl : LR M L) (hR : R % 64 = 3) (h : K (mwd M L R 8) M) : CI mLi_mainWords [.ref L, .ref R] M K := by
  refine call_of rfl (Nat.le_of_ble_eq_true rfl) rfl (vLi_mainWords_0 ?_)
  have key := lp 8 (P := fun k => X mLi_mainWords 4 [(0, .ref L), (1, .ref R), (2, .int (mwd M L R k)), (3, .int (nI k))] [] M (mC mLi_mainWords, mS mLi_mainWords) (QI K)) (fun k hk ih => ?_) ?_
  · exact key
  · refine vLi_mainWords_4 hR ⟨fun q => absurd q (nge rfl (by decide) hk), fun _ => sRu_isMain hR (vLi_mainWords_16 hl.1 (lr7 hl) ⟨fun _ => vin hk (by decide), ?_⟩)⟩
    rw [mwd] at ih
    rw [ncl (by omega), nI_s]
    by_cases c : ((ushr (gi M R 0) (nI k)) &&& 1) = 1
    · rw [if_pos c] at ih
      rw [if_pos c, if_neg (by decide)]; exact ih
    · rw [if_neg c] at ih
      rw [if_neg c, if_pos rfl]; exact ih
  · exact vLi_mainWords_4 hR ⟨fun _ => h, fun q => absurd (nself rfl) q⟩
def cto (M : Mm) (L R : Nat) (b : Int32) : Nat → Int32
  | 0 => mwd M L R 8
  | k + 1 => if ((ushr b (nI k)) &&& 1) = 1 ∧ ¬ gi M (L + 140) k < gi M R 1 then cto M L R b k ||| gi M (L + 524) k else cto M L R b k
def ctg (M : Mm) (L R : Nat) (b : Int32) : Int32 := (cto M L R b 8 &&& (gi M L 10 ^^^ (-1))) &&& (if gi M R 2 = 0 then gi M L 11 ^^^ (-1) else -1)
theorem sLi_counting {b : Int32} {K : Int32 → Mm → Prop} (hl : LR M L) (hR : R % 64 = 3) (h : K (ctg M L R b) M) : CI mLi_counting [.ref L, .ref R, .int b] M K := by
  refine call_of rfl (Nat.le_of_ble_eq_true rfl) rfl (vLi_counting_0 hl.1 (sLi_mainWords hl hR (vLi_counting_5 ?_)))
  have key := lp 8 (P := fun k => X mLi_counting 9 [(0, .ref L), (1, .ref R), (2, .int b), (3, .int (cto M L R b k)), (4, .int (nI k))] [] M (mC mLi_counting, mS mLi_counting) (QI K)) (fun k hk ih => ?_) ?_
  · exact key
  · have ck : (nI k).toNatClampNeg = k := ncl (by omega)
    have nk : ¬ (8 : Int32) ≤ nI k := nge rfl (by decide) hk
    rw [cto] at ih
    refine vLi_counting_9 hl.1 hR ⟨fun q => absurd q.1 nk, fun q => absurd q.1 nk, fun _ => sC_holds (vLi_counting_22 hl.1 hR (lr2 hl) (lr8 hl) ⟨fun _ => vin hk (by decide), fun _ => vin hk (by decide), fun q => ?_, fun q => ?_⟩)⟩
    · rw [ck] at q
      have c : ¬ (((ushr b (nI k)) &&& 1) = 1 ∧ ¬ gi M (L + 140) k < gi M R 1) := by
        rintro ⟨a, e⟩
        rcases q with q | q
        · rw [if_pos a] at q; exact absurd q (by decide)
        · exact e q.2
      rw [if_neg c] at ih
      rw [nI_s]; exact ih
    · rw [ck] at q ⊢
      have c : ((ushr b (nI k)) &&& 1) = 1 := by
        by_cases z : ((ushr b (nI k)) &&& 1) = 1
        · exact z
        · rw [if_neg z] at q; exact absurd rfl q.1
      rw [if_pos ⟨c, q.2⟩] at ih
      rw [nI_s]; exact ih
  · unfold ctg at h
    refine vLi_counting_9 hl.1 hR ⟨fun q => ?_, fun q => ?_, fun q => absurd (nself rfl) q⟩
    · rw [if_pos q.2] at h; exact h
    · rw [if_neg q.2] at h; exact h
theorem lS_tellingBooks {K : Int32 → Mm → Prop} (hl : LR M L) (hR : R % 64 = 3) (h : ∀ v, K v M) : CI mLi_tellingBooks [.ref L, .ref R] M K := by
  refine call_of rfl (Nat.le_of_ble_eq_true rfl) rfl (vLi_tellingBooks_0 hl.1 (sLi_mainWords hl hR (vLi_tellingBooks_5 hl.1 ?_)))
  refine lp 8 (P := fun k => ∀ x y, X mLi_tellingBooks 18 [(0, .ref L), (1, .ref R), (2, .int x), (3, .int y), (4, .int (nI k))] [] M (mC mLi_tellingBooks, mS mLi_tellingBooks) (QI K)) (fun k hk ih x y => ?_) (fun x y => ?_) _ _
  · have nk : ¬ (8 : Int32) ≤ nI k := nge rfl (by decide) hk
    refine vLi_tellingBooks_18 hl.1 hR (lr2 hl) (lr8 hl) ⟨fun _ => vin hk (by decide), fun _ => vin hk (by decide), fun q => absurd q nk, fun _ => ?_, fun _ => ?_⟩
    · rw [nI_s]; exact ih _ _
    · rw [nI_s]; exact ih _ _
  · have l : (8 : Int32) ≤ nI 8 := nself rfl
    refine vLi_tellingBooks_18 hl.1 hR (lr2 hl) (lr8 hl) ⟨fun q => absurd l q, fun q => absurd l q.1, fun _ => h _, fun q => ?_, fun q => absurd l q.1⟩
    exfalso
    rcases q with q | q <;> exact q.1 l
end CW2
/-- what a query of the class may change -/
def CQ (M N : Mm) : Prop := gl N = gl M ∧ (∀ a j, ¬ (a = 5192 ∧ j < 2) → gr N a j = gr M a j) ∧ ∀ a, ¬ (a = 5192 ∨ a = 5261 ∨ a = 5392) → gi N a = gi M a
theorem cq_rf (M : Mm) : CQ M M := ⟨rfl, fun _ _ _ => rfl, fun _ _ => rfl⟩
theorem cq_tr {M N O : Mm} (f : CQ M N) (g : CQ N O) : CQ M O := ⟨g.1.trans f.1, fun a j h => (g.2.1 a j h).trans (f.2.1 a j h), fun a h => (g.2.2 a h).trans (f.2.2 a h)⟩
theorem cq_wq {M N : Mm} (f : WQ M N) : CQ M N := ⟨f.2.1, fun a j _ => by rw [f.1], fun a h => f.2.2.1 a (fun e => h (by omega))⟩
/-- weighing has begun, with some books -/
def bgn (M : Mm) (L R : Nat) (b : Int32) : Mm := si (sr (sr M 5192 0 (some L)) 5192 1 (some R)) 5192 2 (ctg M L R b)
theorem gr_bgn (M : Mm) (L R : Nat) (b : Int32) (a j : Nat) (h : ¬ (a = 5192 ∧ j < 2)) : gr (bgn M L R b) a j = gr M a j := by
  show gr (sr (sr M 5192 0 (some L)) 5192 1 (some R)) a j = _
  rw [gr_sr, if_neg (fun e => h (by omega)), gr_sr, if_neg (fun e => h (by omega))]
theorem cq_bgn (M : Mm) (L R : Nat) (b : Int32) : CQ M (bgn M L R b) := by
  refine ⟨rfl, fun a j h => gr_bgn M L R b a j h, fun a h => ?_⟩
  unfold bgn
  rw [gi_ne (fun e => h (Or.inl e))]; rfl
theorem lr_cq {M N : Mm} {L : Nat} (hL : LA L) (f : CQ M N) (h : LR M L) : LR N L := by
  refine ⟨h.1, fun q hq => ?_, fun w hw => ?_⟩
  · rw [f.2.1 L q.1 (fun e => by unfold LA at hL; omega)]; exact h.2.1 q hq
  · rw [f.2.1 (L + 81) w (fun e => by unfold LA at hL; omega)]; exact h.2.2 w hw
theorem wh_bgn {M : Mm} {L R : Nat} (b : Int32) (hl : LR M L) (hL : LA L) (hR : RA R) (h3 : gr M 5192 3 = some 5261) : WH (bgn M L R b) L R := by
  refine ⟨?_, ?_, ?_, lr_cq hL (cq_bgn M L R b) hl, by unfold RA at hR; omega⟩
  · show gr (sr (sr M 5192 0 (some L)) 5192 1 (some R)) 5192 0 = _
    rw [gr_sr, if_neg (by decide), gr_sr, if_pos ⟨rfl, rfl⟩]
  · show gr (sr (sr M 5192 0 (some L)) 5192 1 (some R)) 5192 1 = _
    rw [gr_sr, if_pos ⟨rfl, rfl⟩]
  · rw [gr_bgn _ _ _ _ _ _ (by decide)]; exact h3
theorem sWe_begin {M : Mm} {L R : Nat} {b : Int32} {K : Mm → Prop} (hl : LR M L) (hL : LA L) (hR : RA R) (h : K (bgn M L R b)) : CV mWe_begin [.ref 5192, .ref L, .ref R, .int b] M K := by
  have h3 : R % 64 = 3 := by unfold RA at hR; omega
  refine call_of rfl (Nat.le_of_ble_eq_true rfl) rfl (vWe_begin_0 rfl hl.1 h3 ?_)
  have l2 : LR (sr (sr M 5192 0 (some L)) 5192 1 (some R)) L := by
    refine lr_cq (M := M) hL ⟨rfl, fun a j n => ?_, fun _ _ => rfl⟩ hl
    rw [gr_sr, if_neg (fun e => n (by omega)), gr_sr, if_neg (fun e => n (by omega))]
  refine sLi_counting l2 h3 (vWe_begin_17 rfl ?_)
  have e : ctg (sr (sr M 5192 0 (some L)) 5192 1 (some R)) L R b = ctg M L R b := by
    have m : ∀ k, mwd (sr (sr M 5192 0 (some L)) 5192 1 (some R)) L R k = mwd M L R k := by
      intro k
      induction k with
      | zero => rfl
      | succ k ih => rw [mwd, mwd, ih]; rfl
    have c : ∀ k, cto (sr (sr M 5192 0 (some L)) 5192 1 (some R)) L R b k = cto M L R b k := by
      intro k
      induction k with
      | zero => exact m 8
      | succ k ih => rw [cto, cto, ih]; rfl
    unfold ctg
    rw [c 8]; rfl
  rw [e]; exact h
section CW3
variable {M N : Mm} {L R : Nat}
/-- what is held, by what, how many -/
def ysC (M : Mm) (L R c : Nat) : Int32 := ocn (fun d => opn M L R d c) 1 8
def nsC (M : Mm) (L R c : Nat) : Int32 := ocn (fun d => opn M L R d c) 0 8
def byC (M : Mm) (L R c : Nat) : Int32 := byf (lwI M L R c) (ysC M L R c) (nsC M L R c) (hds (gi M R 4) (fun d => opn M L R d c)) (gi M R 5)
def heC (M : Mm) (L R c : Nat) : Int32 := anb (byC M L R c) (lwI M L R c) (ysC M L R c) (nsC M L R c) (hds (gi M R 4) (fun d => opn M L R d c)) (gi M R 5)
theorem lwI_wq (f : WQ M N) (hL : LA L) (hR : RA R) (c : Nat) : lwI N L R c = lwI M L R c := by
  unfold lwI; rw [f.2.2.1 R (ra_ne hR), f.2.2.1 (L + 397) (la_ne hL (by decide)), f.2.2.1 (L + 333) (la_ne hL (by decide))]
theorem opf_wq (f : WQ M N) (hL : LA L) (hR : RA R) (c : Nat) : (fun d => opn N L R d c) = fun d => opn M L R d c := funext fun d => opn_wq f hL hR d c
theorem ysC_wq (f : WQ M N) (hL : LA L) (hR : RA R) (c : Nat) : ysC N L R c = ysC M L R c := by unfold ysC; rw [opf_wq f hL hR]
theorem nsC_wq (f : WQ M N) (hL : LA L) (hR : RA R) (c : Nat) : nsC N L R c = nsC M L R c := by unfold nsC; rw [opf_wq f hL hR]
theorem byC_wq (f : WQ M N) (hL : LA L) (hR : RA R) (c : Nat) : byC N L R c = byC M L R c := by
  unfold byC; rw [lwI_wq f hL hR, ysC_wq f hL hR, nsC_wq f hL hR, opf_wq f hL hR, f.2.2.1 R (ra_ne hR)]
theorem heC_wq (f : WQ M N) (hL : LA L) (hR : RA R) (c : Nat) : heC N L R c = heC M L R c := by
  unfold heC; rw [byC_wq f hL hR, lwI_wq f hL hR, ysC_wq f hL hR, nsC_wq f hL hR, opf_wq f hL hR, f.2.2.1 R (ra_ne hR)]
theorem eWe_heldIn {c : Nat} {K : Int32 → Mm → Prop} (w : WH M L R) (hL : LA L) (hR : RA R) (hc : c < 64) (h : ∀ N, WQ M N → WV M L R c N → K (heC M L R c) N) : CI mWe_heldIn [.ref 5192, .int (nI c)] M K := by
  refine call_of rfl (Nat.le_of_ble_eq_true rfl) rfl (vWe_heldIn_0 rfl (eWe_weigh w hL hR hc (fun N qN vN => vWe_heldIn_5 rfl ?_)))
  have e : gi N 5192 9 = heC M L R c := vN.2.2.2.2.2.2
  rw [e]; exact h N qN vN
def csK (M : Mm) (L R : Nat) (v : Int32) (c : Nat) : Int32 := if v < 10 then (if heC M L R c = 1 then 0 else (if heC M L R c = 0 then 1 else 2)) else 10 + byC M L R c
def csO (M : Mm) (L R : Nat) (v : Int32) : Nat → Int64
  | 0 => 0
  | c + 1 => csO M L R v c ||| (if csK M L R v c = v then ((1 : Int64) <<< ((nI c).toInt64 &&& 63)) else 0)
theorem eWe_casesOf {v : Int32} {K : Int64 → Mm → Prop} (w : WH M L R) (hL : LA L) (hR : RA R) (h : ∀ N, WQ M N → K (csO M L R v 64) N) : CJ mWe_casesOf [.ref 5192, .int v] M K := by
  refine call_of rfl (Nat.le_of_ble_eq_true rfl) rfl (vWe_casesOf_0 ?_)
  have key := lp 64 (P := fun c => ∀ N, WQ M N → X mWe_casesOf 5 [(0, .ref 5192), (1, .int v), (2, .long (csO M L R v c)), (4, .int (nI c))] [] N (mC mWe_casesOf, mS mWe_casesOf) (QJ K)) (fun c hc ih N qN => ?_) (fun N qN => ?_)
  · exact key M (wq_rf M)
  · refine vWe_casesOf_5 rfl ⟨fun q => absurd q (nge rfl (by decide) hc), fun _ => eWe_weigh (wh_gr w qN.1) hL hR hc (fun O qO vO => vWe_casesOf_18 rfl ?_)⟩
    have e9 : gi O 5192 9 = heC M L R c := (show gi O 5192 9 = heC N L R c from vO.2.2.2.2.2.2).trans (heC_wq qN hL hR c)
    have e8 : gi O 5192 8 = byC M L R c := (show gi O 5192 8 = byC N L R c from vO.2.2.2.2.2.1).trans (byC_wq qN hL hR c)
    have := ih O (wq_tr qN qO)
    rw [csO] at this
    rw [e9, e8, nI_s]; exact this
  · exact vWe_casesOf_5 rfl ⟨fun _ => h N qN, fun q => absurd (nself rfl) q⟩
theorem lWe_heldIf {d : Nat} {o : Int32} {K : Int32 → Mm → Prop} (w : WH M L R) (hd : d < 8) (h : ∀ v, K v M) : CI mWe_heldIf [.ref 5192, .int (nI d), .int o] M K := by
  have b82 : ∀ x y z, X mWe_heldIf 82 [(0, .ref 5192), (3, .int x), (4, .int y)] [.int z] M (mC mWe_heldIf, mS mWe_heldIf) (QI K) := fun x y z => vWe_heldIf_82 rfl (sWe_decider w (vWe_heldIf_94 rfl (sWe_answerBy w (vWe_heldIf_102 (h _)))))
  exact call_of rfl (Nat.le_of_ble_eq_true rfl) rfl (vWe_heldIf_0 rfl w.2.2.1 w.2.1 ⟨vin hd (by decide), vin hd (by decide), fun _ => sWe_headSaying w (b82 _ _ _), fun _ => b82 _ _ _⟩)
theorem lWe_turnsBy {d c : Nat} {a fw : Int32} {K : Int32 → Mm → Prop} (w : WH M L R) (hd : d < 8) (hc : c < 64) (hw : gi M 5192 4 = nI c) (h : ∀ v, K v M) : CI mWe_turnsBy [.ref 5192, .int (nI d), .int a, .int fw] M K := by
  have l := w.2.2.2.1
  refine call_of rfl (Nat.le_of_ble_eq_true rfl) rfl (vWe_turnsBy_0 rfl w.1 (lr7 l) (lr3 l) (lr4 l) ?_)
  rw [hw]
  exact ⟨vin hd (by decide), vin hc (by decide), vin hc (by decide), sWe_settled w (vWe_turnsBy_82 rfl w.2.2.1 ⟨vin hd (by decide), fun _ => h _, fun _ => lWe_heldIf w hd (fun v => vWe_turnsBy_102 rfl ⟨fun _ => h _, fun _ => h _⟩)⟩)⟩
end CW3
/-- what tallying may change -/
def TQ (M N : Mm) : Prop := gr N = gr M ∧ gl N = gl M ∧ ∀ a, a ≠ 5392 → gi N a = gi M a
theorem tq_rf (M : Mm) : TQ M M := ⟨rfl, rfl, fun _ _ => rfl⟩
theorem tq_tr {M N O : Mm} (f : TQ M N) (g : TQ N O) : TQ M O := ⟨g.1.trans f.1, g.2.1.trans f.2.1, fun a h => (g.2.2 a h).trans (f.2.2 a h)⟩
section CW4
variable {M N : Mm} {L R : Nat}
/-- what the search for the best may change -/
def BQ (M N : Mm) : Prop := gr N = gr M ∧ gl N = gl M ∧ (∀ a, ¬ (a = 5192 ∨ a = 5261 ∨ a = 5392) → gi N a = gi M a)
theorem bq_tr {M N O : Mm} (f : BQ M N) (g : BQ N O) : BQ M O := ⟨g.1.trans f.1, g.2.1.trans f.2.1, fun a h => (g.2.2 a h).trans (f.2.2 a h)⟩
theorem bq_wq {M N : Mm} (f : WQ M N) : BQ M N := ⟨f.1, f.2.1, fun a h => f.2.2.1 a (fun e => h (by omega))⟩
theorem bq_tq {M N : Mm} (f : TQ M N) : BQ M N := ⟨f.1, f.2.1, fun a h => f.2.2 a (fun e => h (by omega))⟩
theorem cq_bq {M N : Mm} (f : BQ M N) : CQ M N := ⟨f.2.1, fun a j _ => by rw [f.1], f.2.2⟩
end CW4
end MG71
