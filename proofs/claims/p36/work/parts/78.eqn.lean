/-! ===== words speak in order ===== -/
abbrev SQ : Type := Int32 × (Nat → Nat → Bool) × (Nat → Nat → Bool)
section EQN
variable (g : Nat → Nat → Int32) (u : Int32)
def sp1 (q : SQ) (w : Nat) : SQ := if bt q.1 w = false ∧ bt u w = false ∧ (fowg g w &&& (q.1 ^^^ (-1))) = 0 then (q.1 ||| ((1 : Int32) <<< (nI w &&& 31)), upb q.2.1 w (sayY g q.2.1 q.2.2 w), upb q.2.2 w (sayN g q.2.1 q.2.2 w)) else q
def spr (q : SQ) : Nat → SQ
  | 0 => q
  | w + 1 => sp1 g u (spr q w) w
def spR (q : SQ) (W : Nat) : Nat → SQ
  | 0 => q
  | n + 1 => spr g u (spR q W n) W
end EQN
/-- what holds while words speak -/
def SI (q : SQ) : Prop := (∀ v c, ¬ (v < 32 ∧ bt q.1 v = true) → q.2.1 v c = false ∧ q.2.2 v c = false) ∧ ∀ v c, ¬ (q.2.1 v c = true ∧ q.2.2 v c = true)
def sq0 : SQ := (0, (fun _ _ => false), fun _ _ => false)
theorem si_0 : SI sq0 := ⟨fun _ _ _ => ⟨rfl, rfl⟩, fun _ _ h => absurd (show false = true from h.1) (by decide)⟩
theorem b_not (x : Int32) {v : Nat} (hv : v < 32) : bt (x ^^^ (-1)) v = !bt x v := by
  have e : bt (-1) v = true := by
    have : ∀ v, v < 32 → bt (-1) v = true := by decide +kernel
    exact this v hv
  have : bt (x ^^^ (-1)) v = (bt x v ^^ bt (-1) v) := by unfold bt; rw [Int32.toBitVec_xor, BitVec.getLsbD_xor]
  rw [this, e, Bool.xor_true]
theorem an0 {a b : Int32} : (a &&& (b ^^^ (-1))) = 0 ↔ ∀ x, x < 32 → bt a x = true → bt b x = true := by
  constructor
  · intro h x hx e
    by_cases z : bt b x = true
    · exact z
    · exfalso
      refine absurd h (nz_b.mpr ⟨x, hx, ?_⟩)
      have zf : bt b x = false := by simpa using z
      rw [b_and, b_not b hx, e, zf]; rfl
  · intro h
    by_cases z : (a &&& (b ^^^ (-1))) = 0
    · exact z
    · exfalso
      obtain ⟨x, hx, e⟩ := nz_b.mp z
      rw [b_and, Bool.and_eq_true, b_not b hx] at e
      rw [h x hx e.1] at e
      exact absurd e.2 (by decide)
theorem say_x {g : Nat → Nat → Int32} {Y Z : Nat → Nat → Bool} (xc : ∀ v c, ¬ (Y v c = true ∧ Z v c = true)) (w c : Nat) : ¬ (sayY g Y Z w c = true ∧ sayN g Y Z w c = true) := by
  unfold sayY sayN
  by_cases k4 : g w 0 = 4
  · rw [if_pos k4, if_pos k4]
    cases csw g w c <;> cases lky g Y w <;> cases lky g Z w <;> decide
  · rw [if_neg k4, if_neg k4]
    by_cases k05 : g w 0 = 0 ∨ g w 0 = 5
    · rw [if_pos k05, if_pos k05]
      rintro ⟨h1, h2⟩
      rw [Bool.and_eq_true, decide_eq_true_eq] at h1 h2
      exact h2.2 h1.2
    · rw [if_neg k05, if_neg k05]
      by_cases k2 : g w 0 = 2
      · rw [if_pos k2, if_pos k2]; exact fun h => xc _ _ ⟨h.2, h.1⟩
      · rw [if_neg k2, if_neg k2]; exact xc _ _
theorem si_sp1 {g : Nat → Nat → Int32} {u : Int32} {q : SQ} {w : Nat} (hw : w < 32) (h : SI q) : SI (sp1 g u q w) := by
  unfold sp1
  by_cases c : bt q.1 w = false ∧ bt u w = false ∧ (fowg g w &&& (q.1 ^^^ (-1))) = 0
  · rw [if_pos c]
    refine ⟨fun v c' n => ?_, fun v c' => ?_⟩
    · have nv : v ≠ w := fun e => n (by rw [e]; exact ⟨hw, (bt_or1 _ hw hw).mpr (Or.inr rfl)⟩)
      show upb q.2.1 w (sayY g q.2.1 q.2.2 w) v c' = false ∧ upb q.2.2 w (sayN g q.2.1 q.2.2 w) v c' = false
      unfold upb
      rw [if_neg nv, if_neg nv]
      exact h.1 v c' (fun y => n ⟨y.1, (bt_or1 _ hw y.1).mpr (Or.inl y.2)⟩)
    · show ¬ (upb q.2.1 w (sayY g q.2.1 q.2.2 w) v c' = true ∧ upb q.2.2 w (sayN g q.2.1 q.2.2 w) v c' = true)
      unfold upb
      by_cases e : v = w
      · rw [if_pos e, if_pos e]; exact say_x h.2 w c'
      · rw [if_neg e, if_neg e]; exact h.2 v c'
  · rw [if_neg c]; exact h
theorem si_spr {g : Nat → Nat → Int32} {u : Int32} {q : SQ} (h : SI q) : ∀ w, w ≤ 32 → SI (spr g u q w)
  | 0, _ => h
  | w + 1, hw => by rw [spr]; exact si_sp1 (by omega) (si_spr h w (by omega))
theorem si_spR {g : Nat → Nat → Int32} {u : Int32} {q : SQ} {W : Nat} (hW : W ≤ 32) (h : SI q) : ∀ n, SI (spR g u q W n)
  | 0 => h
  | n + 1 => by rw [spR]; exact si_spr (si_spR hW h n) W hW
/-- what speaking may change -/
def F5 (r : Nat) (M N : Mm) : Prop := gr N = gr M ∧ gl N = gl M ∧ (∀ a, a ≠ r + 205 → a ≠ r + 269 → (∀ w, w < 24 → a ≠ r + 776 + 64 * w) → gi N a = gi M a) ∧ ∀ w, w < 24 → ∀ k, k ≠ 10 → gi N (r + 776 + 64 * w) k = gi M (r + 776 + 64 * w) k
theorem f5_tr {r : Nat} {M N O : Mm} (f : F5 r M N) (g : F5 r N O) : F5 r M O := ⟨g.1.trans f.1, g.2.1.trans f.2.1, fun a h1 h2 h3 => (g.2.2.1 a h1 h2 h3).trans (f.2.2.1 a h1 h2 h3), fun w hw k hk => (g.2.2.2 w hw k hk).trans (f.2.2.2 w hw k hk)⟩
theorem f5_4 {r w : Nat} {M N : Mm} (hw : w < 24) (f : F4 r w M N) : F5 r M N := by
  refine ⟨f.1, f.2.1, fun a h1 h2 h3 => f.2.2.1 a h1 h2 (h3 w hw), fun v hv k hk => ?_⟩
  by_cases e : v = w
  · subst e; exact f.2.2.2 k hk
  · rw [f.2.2.1 _ (by omega) (by omega) (by omega)]
theorem f5_10 {r w : Nat} {M : Mm} {v : Int32} (hw : w < 24) : F5 r M (si M (r + 776 + 64 * w) 10 v) := by
  refine ⟨rfl, rfl, fun a h1 h2 h3 => gi_ne (h3 w hw), fun x hx k hk => ?_⟩
  rw [gi_si, if_neg (fun e => hk e.2)]
theorem f5_st {r : Nat} {M N : Mm} (f : F5 r M N) : ST r M N := by
  obtain ⟨f1, f2, f3, f4⟩ := f
  refine ⟨f1, f2, by rw [f3 r (by omega) (by omega) (fun w hw => by omega)], fun v hv i hi => f4 v hv i (by omega), fun a ha => f3 a (by omega) (by omega) (fun w hw => by omega), f3 _ (by omega) (by omega) (fun w hw => by omega)⟩
/-- a word comes to the end of its following in n steps -/
def chs (g : Nat → Nat → Int32) : Nat → Nat → Prop
  | 0, w => g w 6 = -4
  | n + 1, w => ∃ f, f < 24 ∧ g w 6 = nI f ∧ chs g n f
theorem chs_u {g : Nat → Nat → Int32} : ∀ n m w, chs g n w → chs g m w → n = m
  | 0, 0, _, _, _ => rfl
  | 0, m + 1, w, h, ⟨f, hf, e, _⟩ => absurd (e.symm.trans h) (nI4 (by omega))
  | n + 1, 0, w, ⟨f, hf, e, _⟩, h => absurd (e.symm.trans h) (nI4 (by omega))
  | n + 1, m + 1, w, ⟨f, hf, e, a⟩, ⟨f', hf', e', b⟩ => by
    have : f = f' := (ninj (by omega) (by omega)).mp (e.symm.trans e')
    subst this
    rw [chs_u n m f a b]
/-- the steps of the words that have spoken; the others have none yet -/
def T10 (N : Mm) (r : Nat) (g : Nat → Nat → Int32) (D : Nat) (q : Int32) : Prop := ∀ w, w < D → (bt q w = true → ∃ n, chs g n w ∧ gi N (r + 776 + 64 * w) 10 = nI n) ∧ (bt q w = false → gi N (r + 776 + 64 * w) 10 = 0)
/-- a word speaks: its steps -/
theorem t10_s {M N : Mm} {r D w : Nat} {g : Nat → Nat → Int32} {q : Int32} (hD : D ≤ 24) (hw : w < D) (rs : RS6 g D w) (f : F4 r w M N) (s : S10 M N r g w) (nq : bt q w = false) (fo : (fowg g w &&& (q ^^^ (-1))) = 0) (t : T10 M r g D q) : T10 N r g D (q ||| ((1 : Int32) <<< (nI w &&& 31))) := by
  intro v hv
  by_cases e : v = w
  · subst e
    have y : bt (q ||| ((1 : Int32) <<< (nI v &&& 31))) v = true := (bt_or1 _ (by omega) (by omega)).mpr (Or.inr rfl)
    refine ⟨fun _ => ?_, fun z => absurd (y.symm.trans z) (by decide)⟩
    rcases rs.1 with ⟨-, e6⟩ | ⟨nk, x, hx, -, e6⟩
    · exact ⟨0, e6, by rw [s.1 e6]; exact (t v hv).2 nq⟩
    · have fb : bt (fowg g v) x = true := by
        unfold fowg
        rw [if_neg (fun z => nk (Or.inr (Or.inl z))), e6, if_neg (nI4 (by omega)), b_one x (by omega) x (by omega), decide_eq_true_eq]
      obtain ⟨n, a, b⟩ := (t x hx).1 (an0.mp fo x (by omega) fb)
      exact ⟨n + 1, ⟨x, by omega, e6, a⟩, by rw [s.2 x (by omega) e6, b, nI_s]⟩
  · have g1 : gi N (r + 776 + 64 * v) 10 = gi M (r + 776 + 64 * v) 10 := by rw [f.2.2.1 _ (by omega) (by omega) (by omega)]
    rw [g1]
    refine ⟨fun z => (t v hv).1 ?_, fun z => (t v hv).2 ?_⟩
    · rcases (bt_or1 _ (by omega) (by omega)).mp z with z | z
      · exact z
      · exact absurd z e
    · cases y : bt q v
      · rfl
      · rw [(bt_or1 _ (by omega) (by omega)).mpr (Or.inl y)] at z
        exact absurd z (by decide)
/-- the steps when all is said -/
def E10 (N : Mm) (r : Nat) (g : Nat → Nat → Int32) (D : Nat) (u q : Int32) : Prop := ∀ w, w < D → (bt u w = true → gi N (r + 776 + 64 * w) 10 = -4) ∧ (bt u w = false → bt q w = true → ∃ n, chs g n w ∧ gi N (r + 776 + 64 * w) 10 = nI n)
section EQN2
variable {M : Mm} {r D : Nat}
theorem eS_speakInOrder {K : Mm → Prop} {g : Nat → Nat → Int32} {u : Int32} (l : LD M r D) (hu : gi M r 13 = u) (hf : ∀ w, w < D → gi M (r + 651) w = fowg g w) (eg : ∀ w, w < D → ∀ i, i < 7 → gi M (r + 776 + 64 * w) i = g w i) (rs : ∀ w, w < D → RS6 g D w) (us : ∀ w, w < D → bt u w = false → ∀ v, v < 32 → bt (fowg g w) v = true → bt u v = false) (z10 : ∀ w, w < D → gi M (r + 776 + 64 * w) 10 = 0)
    (h : ∀ N, F5 r M N → CY N r (spR g u sq0 D D).2.1 (spR g u sq0 D D).2.2 → E10 N r g D u (spR g u sq0 D D).1 → K N) : CV mLi_speakInOrder [.ref r] M K := by
  have hl := l.1
  have hD := l.2.2.1
  refine call_of rfl (Nat.le_of_ble_eq_true rfl) rfl (vLi_speakInOrder_0 hl.1 (lr3 hl) (sJr_fill (lrk hl 205 14 rfl (by decide)) ak_14 (by decide) (vLi_speakInOrder_8 hl.1 (lr4 hl) (sJr_fill (lrk hl 269 14 rfl (by decide)) ak_14 (by decide) (vLi_speakInOrder_16 hl.1 ?_)))))
  generalize eA : fl (fl M (r + 205) 64 0) (r + 269) 64 0 = A
  have f0 : F5 r M A := by
    rw [← eA]
    refine ⟨rfl, rfl, fun a h1 h2 h3 => ?_, fun w hw k hk => ?_⟩
    · funext k; rw [flR _ _ _ _ _ _ h2, flR _ _ _ _ _ _ h1]
    · rw [flR _ _ _ _ _ _ (by omega), flR _ _ _ _ _ _ (by omega)]
  have c0 : CY A r sq0.2.1 sq0.2.2 := by
    rw [← eA]
    intro c hc v hv
    rw [flR _ _ _ _ _ _ (by omega), gi_fl, if_pos ⟨rfl, hc⟩, gi_fl, if_pos ⟨rfl, hc⟩, b_0]
    exact ⟨rfl, rfl⟩
  have uA : gi A r 13 = u := by rw [f0.2.2.1 r (by omega) (by omega) (fun w hw => by omega)]; exact hu
  rw [uA]
  have t0 : T10 A r g D sq0.1 := by
    intro w hw
    have e : gi A (r + 776 + 64 * w) 10 = 0 := by
      rw [← eA, flR _ _ _ _ _ _ (by omega), flR _ _ _ _ _ _ (by omega)]; exact z10 w hw
    refine ⟨fun z => ?_, fun _ => e⟩
    have z' : bt 0 w = true := z
    rw [b_0] at z'
    exact absurd z' (by decide)
  have k2 : ∀ N, F5 r M N → CY N r (spR g u sq0 D D).2.1 (spR g u sq0 D D).2.2 → T10 N r g D (spR g u sq0 D D).1 → X mLi_speakInOrder 87 [(0, .ref r), (2, .int 0)] [] N (mC mLi_speakInOrder, mS mLi_speakInOrder) (QV K) := by
    intro N fN cN tN
    refine lp D (P := fun i => ∀ N, F5 r M N → CY N r (spR g u sq0 D D).2.1 (spR g u sq0 D D).2.2 → (∀ w, w < D → (w < i → bt u w = true → gi N (r + 776 + 64 * w) 10 = -4) ∧ (bt u w = false → bt (spR g u sq0 D D).1 w = true → ∃ n, chs g n w ∧ gi N (r + 776 + 64 * w) 10 = nI n)) → X mLi_speakInOrder 87 [(0, .ref r), (2, .int (nI i))] [] N (mC mLi_speakInOrder, mS mLi_speakInOrder) (QV K)) (fun i hi ih N fN cN tN => ?_) (fun N fN cN tN => ?_) N fN cN (fun w hw => ⟨fun z => absurd z (by omega), fun _ z => (tN w hw).1 z⟩)
    · have lN := ld_st (f5_st fN) l
      have uN : gi N r 13 = u := by rw [fN.2.2.1 r (by omega) (by omega) (fun w hw => by omega)]; exact hu
      refine vLi_speakInOrder_87 hl.1 ⟨fun q => absurd q (ld_le lN hi), fun _ => sC_holds (vLi_speakInOrder_103 hl.1 (lr0 lN.1) ⟨fun q => ?_, fun q => ⟨ld_v lN hi, r + 776 + 64 * i, ld_gw lN (by omega), ?_⟩⟩)⟩
      · rw [uN] at q
        have nu : ¬ bt u i = true := fun z => by
          rw [if_pos ((bitu _ (by omega)).mpr z)] at q
          exact absurd q (by decide)
        rw [nI_s]
        refine ih N fN cN (fun w hw => ⟨fun z y => ?_, (tN w hw).2⟩)
        by_cases e : w = i
        · subst e; exact absurd y nu
        · exact (tN w hw).1 (by omega) y
      · rw [uN] at q
        have yu : bt u i = true := by
          by_cases z : bt u i = true
          · exact z
          · exfalso
            rw [if_neg (fun y => z ((bitu _ (by omega)).mp y))] at q
            exact q rfl
        rw [nI_s]
        refine ih _ (f5_tr fN (f5_10 (by omega))) (fun c hc v hv => ?_) (fun w hw => ?_)
        · rw [giR _ _ _ _ _ _ (by omega), giR _ _ _ _ _ _ (by omega)]; exact cN c hc v hv
        · by_cases e : w = i
          · subst e
            rw [gxs, if_pos rfl]
            exact ⟨fun _ _ => rfl, fun z => absurd (yu.symm.trans z) (by decide)⟩
          · rw [giR _ _ _ _ _ _ (by omega)]
            exact ⟨fun z y => (tN w hw).1 (by omega) y, (tN w hw).2⟩
    · have lN := ld_st (f5_st fN) l
      exact vLi_speakInOrder_87 hl.1 ⟨fun _ => h N fN cN (fun w hw => ⟨(tN w hw).1 hw, (tN w hw).2⟩), fun q => absurd (ld_se lN) q⟩
  refine lp D (P := fun n => ∀ N s, F5 r M N → (∀ x, x < 32 → bt s x = (bt (spR g u sq0 D n).1 x || bt u x)) → CY N r (spR g u sq0 D n).2.1 (spR g u sq0 D n).2.2 → T10 N r g D (spR g u sq0 D n).1 → X mLi_speakInOrder 23 [(0, .ref r), (1, .int s), (2, .int (nI n))] [] N (mC mLi_speakInOrder, mS mLi_speakInOrder) (QV K)) (fun n hn ih N s fN sN cN tN => ?_) (fun N s fN sN cN tN => ?_) A u f0 (fun x hx => by show bt u x = (bt 0 x || bt u x); rw [b_0, Bool.false_or]) c0 t0
  · have lN := ld_st (f5_st fN) l
    have si0 : SI (spR g u sq0 D n) := si_spR (by omega) si_0 n
    refine vLi_speakInOrder_23 hl.1 ⟨fun q => absurd q (ld_le lN hn), fun _ => ?_⟩
    have ih' : ∀ N s, F5 r M N → (∀ x, x < 32 → bt s x = (bt (spr g u (spR g u sq0 D n) D).1 x || bt u x)) → CY N r (spr g u (spR g u sq0 D n) D).2.1 (spr g u (spR g u sq0 D n) D).2.2 → T10 N r g D (spr g u (spR g u sq0 D n) D).1 → X mLi_speakInOrder 23 [(0, .ref r), (1, .int s), (2, .int (nI (n + 1)))] [] N (mC mLi_speakInOrder, mS mLi_speakInOrder) (QV K) := fun N s a b c d => ih N s a b c d
    generalize spR g u sq0 D n = q0 at sN cN si0 ih' tN
    refine lp D (P := fun w => ∀ N s, F5 r M N → (∀ x, x < 32 → bt s x = (bt (spr g u q0 w).1 x || bt u x)) → CY N r (spr g u q0 w).2.1 (spr g u q0 w).2.2 → T10 N r g D (spr g u q0 w).1 → X mLi_speakInOrder 33 [(0, .ref r), (1, .int s), (2, .int (nI n)), (3, .int (nI w))] [] N (mC mLi_speakInOrder, mS mLi_speakInOrder) (QV K)) (fun w hw ih2 N s fN sN cN tN => ?_) (fun N s fN sN cN tN => ?_) N s fN sN cN tN
    · have lN := ld_st (f5_st fN) l
      have cw : (nI w).toNatClampNeg = w := ncl (by omega)
      have siw : SI (spr g u q0 w) := si_spr si0 w (by omega)
      have fo : gi N (r + 651) w = fowg g w := by rw [fN.2.2.1 _ (by omega) (by omega) (fun x hx => by omega)]; exact hf w hw
      have ihw : ∀ N s, F5 r M N → (∀ x, x < 32 → bt s x = (bt (sp1 g u (spr g u q0 w) w).1 x || bt u x)) → CY N r (sp1 g u (spr g u q0 w) w).2.1 (sp1 g u (spr g u q0 w) w).2.2 → T10 N r g D (sp1 g u (spr g u q0 w) w).1 → X mLi_speakInOrder 33 [(0, .ref r), (1, .int s), (2, .int (nI n)), (3, .int (nI (w + 1)))] [] N (mC mLi_speakInOrder, mS mLi_speakInOrder) (QV K) := fun N s a b c d => ih2 N s a b c d
      generalize spr g u q0 w = q at sN cN siw ihw tN
      have cond : (bt s w = false ∧ (fowg g w &&& (s ^^^ (-1))) = 0) ↔ (bt q.1 w = false ∧ bt u w = false ∧ (fowg g w &&& (q.1 ^^^ (-1))) = 0) := by
        rw [an0, an0, sN w (by omega), Bool.or_eq_false_iff]
        constructor
        · rintro ⟨⟨a1, a2⟩, a3⟩
          refine ⟨a1, a2, fun x hx e => ?_⟩
          have := a3 x hx e
          rw [sN x hx, us w hw a2 x hx e, Bool.or_false] at this
          exact this
        · rintro ⟨a1, a2, a3⟩
          refine ⟨⟨a1, a2⟩, fun x hx e => ?_⟩
          rw [sN x hx, a3 x hx e, Bool.true_or]
      have hb : ∀ {z : Int32}, z = (if ((ushr s (nI w)) &&& 1) = 1 then 1 else 0) → (z = 0 ↔ bt s w = false) := by
        intro z ez
        rw [ez]
        by_cases y : bt s w = true
        · rw [if_pos ((bitu _ (by omega)).mpr y), y]; decide
        · have yf : bt s w = false := by simpa using y
          rw [if_neg (fun x => y ((bitu _ (by omega)).mp x)), yf]; decide
      refine vLi_speakInOrder_33 hl.1 ⟨fun q => absurd q (ld_le lN hw), fun _ => sC_holds (vLi_speakInOrder_46 hl.1 (lr14 lN.1) ⟨fun _ => ld_v lN hw, fun p => ?_, fun p => ?_⟩)⟩
      · rw [cw, fo, hb rfl] at p
        have nc : ¬ (bt q.1 w = false ∧ bt u w = false ∧ (fowg g w &&& (q.1 ^^^ (-1))) = 0) := fun z => by
          have z' := cond.mpr z
          rcases p with p | p
          · exact p z'.1
          · exact p.2 z'.2
        have e1 : sp1 g u q w = q := by unfold sp1; rw [if_neg nc]
        rw [e1] at ihw
        rw [nI_s]; exact ihw N s fN sN cN tN
      · rw [cw, fo, hb rfl] at p
        have yc := cond.mp p
        have e1 : sp1 g u q w = (q.1 ||| ((1 : Int32) <<< (nI w &&& 31)), upb q.2.1 w (sayY g q.2.1 q.2.2 w), upb q.2.2 w (sayN g q.2.1 q.2.2 w)) := by unfold sp1; rw [if_pos yc]
        rw [e1] at ihw
        refine eS_speak lN hw (fun i hi => by rw [fN.2.2.2 w (by omega) i (by omega)]; exact eg w hw i hi) (rs w hw) fo cN (fun v hv e k4 => ?_) (fun c => siw.1 w c (fun y => by rw [yc.1] at y; exact absurd y.2 (by decide))) siw.2 (fun O fO cO sO => vLi_speakInOrder_67 ?_)
        · unfold fowg at e
          rw [if_pos k4] at e
          exact ((fosg_b g w w (by omega) v hv).mp e).1
        · rw [nI_s]
          refine ihw O _ (f5_tr fN (f5_4 (by omega) fO)) (fun x hx => ?_) cO (t10_s hD hw (rs w hw) fO sO yc.1 yc.2.2 tN)
          show bt (s ||| ((1 : Int32) <<< (nI w &&& 31))) x = (bt (q.1 ||| ((1 : Int32) <<< (nI w &&& 31))) x || bt u x)
          rw [b_or, b_or, sN x hx]
          cases bt q.1 x <;> cases bt u x <;> cases bt ((1 : Int32) <<< (nI w &&& 31)) x <;> rfl
    · have lN := ld_st (f5_st fN) l
      refine vLi_speakInOrder_33 hl.1 ⟨fun _ => ?_, fun q => absurd (ld_se lN) q⟩
      rw [nI_s]; exact ih' N s fN sN cN tN
  · have lN := ld_st (f5_st fN) l
    exact vLi_speakInOrder_23 hl.1 ⟨fun _ => k2 N fN cN tN, fun q => absurd (ld_se lN) q⟩
end EQN2
