/-! ===== methods called ===== -/
def rI (r : Option Value) : Prop := match r with
  | none => True
  | some (.int _) => True
  | some (.long _) => True
  | _ => False
theorem rI_cz {r : Option Value} (h : rI r) (g : Ev) : r.toList.map (cz g) = r.toList := by
  match r, h with
  | none, _ => rfl
  | some (.int _), _ => rfl
  | some (.long _), _ => rfl
theorem rI_ok {r : Option Value} (h : rI r) {M : Mm} : ∀ v ∈ r.toList, okv M v := by
  match r, h with
  | none, _ => intro v hv; cases hv
  | some (.int _), _ => intro v hv; rw [List.mem_singleton.mp hv]; trivial
  | some (.long _), _ => intro v hv; rw [List.mem_singleton.mp hv]; trivial
def cQ (g : Ev) (M : Mm) (Q : Option Value → Mm → Prop) : Array Value → State → Outcome → State → Prop := fun _ st oc t => ∃ (r : Option Value) (N : Mm), oc = .returned r ∧ rI r ∧ Q r N ∧ HR g N t.heap ∧ WF N ∧ KM M N ∧ va_F (fA g) st t
def cP (g : Ev) (M : Mm) (as : List Value) : Array Value → State → Prop := va_Pc (as.map (cz g)) (fun U => HR g M U.heap ∧ KU g M.1.2 (gi M 62) U U.heap)
def CALL (m : MI) (as : List Value) (M : Mm) (Q : Option Value → Mm → Prop) : Prop := ∀ (l : Launch) (g : Ev), WF M → (∀ v ∈ as, okv M v) → Met l (mY m) (mW m) (mRoom m) (cP g M as) (cQ g M Q) (mC m) (mS m) (fA g)
theorem cP_blind (g : Ev) (M : Mm) (as : List Value) : FrameBlind (cP g M as) := fun a U f mk h => ⟨h.1, h.2.1, ku_same (u := U) h.2.2 rfl⟩
theorem lg_czl (g : Ev) (as : List Value) : (lg_sl (as.map (cz g))).length = (lg_sl as).length := by
  induction as with
  | nil => rfl
  | cons v vs ih =>
    unfold lg_sl at ih ⊢
    rw [List.map_cons, List.flatMap_cons, List.flatMap_cons, List.length_append, List.length_append, ih, cz_cat]
    split <;> rfl
theorem lv_cza (g : Ev) (as : List Value) : ∀ i, lv_args i (as.map (cz g)) = (lv_args i as).map (cq g) := by
  induction as with
  | nil => intro i; rfl
  | cons v vs ih =>
    intro i
    rw [List.map_cons, lv_args, lv_args, ih, cz_cat]
    rfl
theorem lv_args_ok {M : Mm} (as : List Value) (h : ∀ v ∈ as, okv M v) : ∀ i, ∀ q ∈ lv_args i as, okv M q.2 := by
  induction as with
  | nil => intro i q hq; cases hq
  | cons v vs ih =>
    intro i q hq
    rw [lv_args] at hq
    rcases List.mem_cons.mp hq with rfl | hq
    · exact h v List.mem_cons_self
    · exact ih (fun w hw => h w (List.mem_cons_of_mem _ hw)) _ q hq
/-- a method's walk gives its contract -/
theorem call_of {m : MI} {as : List Value} {M : Mm} {Q : Option Value → Mm → Prop} {L : List (Nat × Value)} (hp : plainName (mY m).cls = true) (hlen : (lg_sl as).length ≤ mL m) (hL : lv_args 0 as = L) (h : X m 0 L [] M (mC m, mS m) Q) : CALL m as M Q := by
  subst hL
  intro l g hw hok
  refine Met.ofW (cc := mB m) (maxL := mL m) (ret := mT m) hp rfl ?_
  intro p e s mid args below meth c s₁ B hml hv
  obtain ⟨rfl, hH, hKU⟩ := hv
  have hts := atoms_spec (ws := mW m) B.pre
  have hown : s.vm.findClass (mY m).cls = some mid.cls := findClass_of_methodNamed B.named
  have hlocks := B.notSynchronized
  have hnm : meth.name = (mY m).name := (name_of_methodNamed B.named B.method).1
  have hl := lv_entry (as.map (cz g)) (n := mL m) (by rw [lg_czl]; exact hlen)
  rw [lg_entry_eq]
  generalize (lg_sl (as.map (cz g)) ++ List.replicate (mL m - (lg_sl (as.map (cz g))).length) Slot.unset).toArray = ls at hl ⊢
  rw [lv_cza] at hl
  have C : Cx m g M.1.2 (gi M 62) p (mRoom m) s mid (as.map (cz g)).toArray meth c := ⟨B.exec, B.bytes, hml, hown, fun w hw => hts w (List.mem_cons_of_mem _ hw), ⟨Nat.le_refl _, Nat.le_refl _, Nat.le_refl _, Nat.le_refl _⟩, hnm, hKU⟩
  refine h g p l e (mRoom m) s mid _ below meth c (MQ below (cQ g M Q) (as.map (cz g)).toArray s (mC m) (mS m) (fA g)) C ?_ s.heap [] 0 0 ls hH hw (lv_args_ok as hok 0) (fun v hv => by cases hv) hl va_S.rf (Nat.le_of_eq (Nat.zero_add _)) (Nat.le_of_eq (Nat.zero_add _))
  intro r N H locs cells slots pc ls hQ hret hHN hwN hkm hss hc hc2
  refine W.widen hc hc2 ?_
  have hr := B.returns
  have hq : ∀ r, rI r → Q r N → ∀ t : State, t.heap = H → s.WarmedH t.vm → cQ g M Q (as.map (cz g)).toArray s (.returned r) t := fun r hri hQ t ht _ => ⟨r, N, rfl, hri, hQ, by rw [ht]; exact hHN, hwN, hkm, hss.F ht⟩
  match r, hret, hQ with
  | none, hret, hQ => exact W.vret B.exec B.bytes (hr.trans hret.2) (hq none trivial hQ) hss.2.2 hret.1 hlocks
  | some (.int v), hret, hQ =>
    obtain ⟨hd, ty, hty, hn⟩ := hret
    exact W.zret B.exec B.bytes (hr.trans hty) hn (hq (some (.int v)) trivial hQ) hss.2.2 hd hlocks
  | some (.long v), hret, hQ => exact W.lret B.exec B.bytes (hr.trans hret.2) (hq (some (.long v)) trivial hQ) hss.2.2 hret.1 hlocks
/-- callees by the tables -/
def MG (m : MI) (n : Nat) : Prop := Cond.code (mY m) (mB m) (mL m) (mT m) ∈ TG ∧ Cond.initialized (mY m).cls ∈ TG ∧ ((mY m).cls ≠ "java/lang/invoke/MethodHandle" ∧ (mY m).cls ≠ "java/lang/invoke/VarHandle" ∧ (parseMethodDescriptor (mY m).desc).map (fun d => d.parameters.length) = some n)
def MV (m : MI) (n : Nat) : Prop := MG m n ∧ Cond.instanceMethod (mY m) ∈ TG ∧ Cond.selects (mY m).cls (mY m) (mY m) ∈ TG
def MSt (m : MI) (n : Nat) : Prop := MG m n ∧ Cond.static (mY m) ∈ TG
def MIn (m : MI) (n : Nat) : Prop := MG m n ∧ Cond.instanceMethod (mY m) ∈ TG ∧ (mY m).name = "<init>" ∧ mT m = none
theorem mw_good {m : MI} {n : Nat} (h : MG m n) : GoodIn TG (mW m) := fun w hw => by
  rcases List.mem_cons.mp hw with rfl | hw
  · exact TG_good _ h.1
  · exact TG_good _ hw
/-- the caller has room for the callee -/
def RM (m m' : MI) : Prop := mF m' + 1 ≤ mF m ∧ 8 + (mL m' + 11) + mO m' ≤ mO m
section ROWS3
variable {p : Program} {l : Launch} {e : Env} {R : Room} {s : State} {mid : MethodId} {args : Array Value} {below : List Frame} {meth : Method} {c : Code} {H : Heap} {locs : List Loc} {cells slots : Nat} {Z : State → Prop}
theorem W_run {g : Ev} {M : Mm} {Q : Option Value → Mm → Prop} {mc ms pc : Nat} {ls : Array Slot} {st0 rest : List Value} {a : Array Value} (hr : va_Run p l e R s mid args below meth c H locs cells slots mc ms (F0 mid pc ls st0) rest (cQ g M Q a) (fA g)) (hss : va_S (fA g) s.heap H locs)
    (kk : ∀ (r : Option Value) (N : Mm) (H1 : Heap) (locs1 : List Loc), rI r → Q r N → HR g N H1 → WF N → KM M N → va_S (fA g) s.heap H1 locs1 → W p l e R s mid args below meth c H1 locs1 (cells + mc) (slots + ms) Z (F0 mid (pc + 3) ls (r.toList ++ rest))) : W p l e R s mid args below meth c H locs cells slots Z (F0 mid pc ls st0) := by
  intro T hT X0
  obtain ⟨v, st₀, t, T', Lo, h0, X', hL, e1, e2, ⟨r, N, hv, hri, hQ, hHN, hwN, hkm, hF⟩, st⟩ := hr T hT X0
  cases hv
  obtain ⟨hz, hk⟩ := hF
  rw [h0] at hz hk
  obtain ⟨t2, a1, b1⟩ := kk v N T'.heap (locs ++ Lo) hri hQ (by rw [e1]; exact hHN) hwN hkm ⟨Nat.le_trans hss.1 (by rw [e1]; exact hz), fun q h1 h2 => by rw [e1, hk q (Nat.lt_of_lt_of_le h1 hss.1) h2]; exact hss.2.1 q h1 h2, fun q hq => by
      rcases List.mem_append.mp hq with h | h
      · exact hss.2.2 q h
      · exact hL q h⟩ T' rfl X'
  exact ⟨t2, st t2 a1, b1⟩
end ROWS3
section ROWS4
variable {m m' : MI} {pc : Nat} {L : List (Nat × Value)} {S St : List Value} {M : Mm} {b : Nat × Nat} {Q : Option Value → Mm → Prop}
/-- what goes on behind a call -/
def aft (m m' : MI) (pc : Nat) (L : List (Nat × Value)) (S : List Value) (b : Nat × Nat) (Q : Option Value → Mm → Prop) : Option Value → Mm → Prop := fun r N => X m (pc + 3) L (r.toList ++ S) N (b.1 - mC m', b.2 - mS m') Q
theorem cat_cz (g : Ev) (S : List Value) : ((S.map (cz g)).map fun v => v.category).sum = (S.map fun v => v.category).sum := by
  rw [List.map_map]
  congr 1
  exact List.map_congr_left (fun v _ => cz_cat g v)
theorem aft_k {g : Ev} {p : Program} {l : Launch} {e : Env} {R : Room} {s : State} {mid : MethodId} {args : Array Value} {below : List Frame} {meth : Method} {c : Code} {cells slots : Nat} {Z : State → Prop} {ls : Array Slot} (C : Cx m g M.1.2 (gi M 62) p R s mid args meth c) (hR : Rt m g p l e R s mid args below meth c Z M Q) (hL : ∀ q ∈ L, okv M q.2) (hS : ∀ v ∈ S, okv M v) (hl : lv_has ls (mL m) (L.map (cq g))) (hc : cells + b.1 ≤ mC m) (hc2 : slots + b.2 ≤ mS m) (hb : mC m' ≤ b.1 ∧ mS m' ≤ b.2) :
    ∀ (r : Option Value) (N : Mm) (H1 : Heap) (locs1 : List Loc), rI r → aft m m' pc L S b Q r N → HR g N H1 → WF N → KM M N → va_S (fA g) s.heap H1 locs1 → W p l e R s mid args below meth c H1 locs1 (cells + mC m') (slots + mS m') Z (F0 mid (pc + 3) ls (r.toList ++ S.map (cz g))) := by
  intro r N H1 locs1 hri hQ hHN hwN hkm hss
  have K := hQ g p l e R s mid args below meth c Z (cx_km hkm C) (rt_km hkm hR) H1 locs1 (cells + mC m') (slots + mS m') ls hHN hwN (ls_ok hkm hL) (fun v hv => (List.mem_append.mp hv).elim (rI_ok hri v) (st_ok hkm hS v)) hl hss (by show cells + mC m' + (b.1 - mC m') ≤ _; omega) (by show slots + mS m' + (b.2 - mS m') ≤ _; omega)
  rw [List.map_append, rI_cz hri] at K
  exact K
theorem czr (g : Ev) (As S : List Value) : (As.reverse ++ S).map (cz g) = (As.map (cz g)).reverse ++ S.map (cz g) := by rw [List.map_append, List.map_reverse]
theorem ku_at {g : Ev} {n : Nat} {xs : Nat → Int32} {s : State} {H : Heap} {locs : List Loc} (h : KU g n xs s s.heap) (hss : va_S (fA g) s.heap H locs) : ∀ U : State, U.heap = H → s.WarmedH U.vm → KU g n xs U U.heap := fun U hU hW => by
  rw [hU]
  exact ku_mv h hW hss.1 hss.2.1
theorem x_invV {n i a c : Nat} {As : List Value} (hd : decode (mB m) pc = .ok (.invokevirtual i, 3)) (hl : Cond.methodLink (mY m).cls i (mY m') ∈ TG) (hv : MV m' n) (hn : As.length = n) (h12 : c < 12) (hc0 : kC c = (mY m').cls) (ha : a % 64 = c) (hrm : RM m m') (hb : mC m' ≤ b.1 ∧ mS m' ≤ b.2) (hst : St = As.reverse ++ .ref a :: S) (hcat : (S.map fun v => v.category).sum ≤ 8)
    (h : CALL m' (.ref a :: As) M (aft m m' pc L S b Q)) : X m pc L St M b Q := by
  subst hst
  intro g p l e R s mid args below meth cc Z C hR H locs cells slots ls hH hw hL hS hl2 hss hc hc2
  have hSS : ∀ v ∈ S, okv M v := fun v hv => hS v (List.mem_append_right _ (List.mem_cons_of_mem _ hv))
  have hva : okv M (.ref a) := hS _ (List.mem_append_right _ List.mem_cons_self)
  have hAs : ∀ v ∈ As, okv M v := fun v hv => hS v (List.mem_append_left _ (List.mem_reverse.mpr hv))
  have hA : okA M a := okA_of hva (by omega)
  have hts := C.2.2.2.2.1
  have hK := C.2.2.2.2.2.2.2.1
  obtain ⟨f1, f2, f3, f4⟩ := C.2.2.2.2.2.1
  rw [czr, List.map_cons, show cz g (.ref a) = .ref (eb g + a / 64) from by show Value.ref (ca g a) = _; rw [ca_ok hw hA]]
  have hM := h l g hw (ok1 hAs hva)
  refine W_run (va_runV (As := As.map (cz g)) (rest := S.map (cz g)) (n := n) (C := (mY m').cls) (bytes := mB m') (maxL := mL m') (ret := mT m') (Ts := TG) ⟨C.1, C.2.1, C.2.2.1, C.2.2.2.1, hts⟩ hM ⟨⟨rfl, rfl, Nat.le_trans hrm.1 f1, Nat.le_trans hrm.2 f2, pay_in hts (mw_good hv.1), List.mem_cons_self, hts _ hv.1.1, hts _ hv.1.2.1, ⟨hv.1.2.2.1, hv.1.2.2.2.1⟩, fun sig h => ?_, hts _ hl⟩, hts _ hv.2.1, hts _ hv.2.2⟩ ⟨cP_blind g M _, ?_, fun U hU hW => ⟨?_, by rw [hU]; exact hH, ku_at C.2.2.2.2.2.2.2 hss U hU hW⟩⟩ rfl (by rw [List.length_map]; exact hn) hl2.1 rfl (lv_room (by rw [cat_cz]; exact hcat)) hd ⟨by omega, by omega⟩) hss (aft_k C hR hL hSS hl2 hc hc2 hb)
  · have h2 := hv.1.2.2.2.2
    rw [h] at h2
    exact (Option.some.inj h2).symm
  · rw [← hc0]
    exact va_recv hK hH.2 (k_c h12) (q0 := a / 64) (by rw [wl_at hA, ha, ce_O h12])
  · show (Value.ref (eb g + a / 64) :: As.map (cz g)).toArray = _
    rw [List.map_cons, show cz g (.ref a) = .ref (eb g + a / 64) from by show Value.ref (ca g a) = _; rw [ca_ok hw hA]]
theorem x_invS {n i : Nat} {As : List Value} (hd : decode (mB m) pc = .ok (.invokestatic i, 3)) (hl : Cond.methodLink (mY m).cls i (mY m') ∈ TG) (hv : MSt m' n) (hn : As.length = n) (hrm : RM m m') (hb : mC m' ≤ b.1 ∧ mS m' ≤ b.2) (hst : St = As.reverse ++ S) (hcat : (S.map fun v => v.category).sum ≤ 8)
    (h : CALL m' As M (aft m m' pc L S b Q)) : X m pc L St M b Q := by
  subst hst
  intro g p l e R s mid args below meth cc Z C hR H locs cells slots ls hH hw hL hS hl2 hss hc hc2
  have hSS : ∀ v ∈ S, okv M v := fun v hv => hS v (List.mem_append_right _ hv)
  have hAs : ∀ v ∈ As, okv M v := fun v hv => hS v (List.mem_append_left _ (List.mem_reverse.mpr hv))
  have hts := C.2.2.2.2.1
  obtain ⟨f1, f2, f3, f4⟩ := C.2.2.2.2.2.1
  rw [czr]
  have hM := h l g hw hAs
  refine W_run (va_runS (As := As.map (cz g)) (rest := S.map (cz g)) (n := n) (bytes := mB m') (maxL := mL m') (ret := mT m') (Ts := TG) ⟨C.1, C.2.1, C.2.2.1, C.2.2.2.1, hts⟩ hM ⟨⟨rfl, rfl, Nat.le_trans hrm.1 f1, Nat.le_trans hrm.2 f2, pay_in hts (mw_good hv.1), List.mem_cons_self, hts _ hv.1.1, hts _ hv.1.2.1, ⟨hv.1.2.2.1, hv.1.2.2.2.1⟩, fun sig h => ?_, hts _ hl⟩, hts _ hv.2⟩ ⟨cP_blind g M _, fun U hU hW => ⟨rfl, by rw [hU]; exact hH, ku_at C.2.2.2.2.2.2.2 hss U hU hW⟩⟩ rfl (by rw [List.length_map]; exact hn) hl2.1 rfl (lv_room (by rw [cat_cz]; exact hcat)) hd ⟨by omega, by omega⟩) hss (aft_k C hR hL hSS hl2 hc hc2 hb)
  have h2 := hv.1.2.2.2.2
  rw [h] at h2
  exact (Option.some.inj h2).symm
/-- a static method of the host, private -/
theorem x_invSN {n i : Nat} {As : List Value} {host : String} (hd : decode (mB m) pc = .ok (.invokestatic i, 3)) (hl : ((mY m).cls, i, mY m', host) ∈ nestl) (hv : MSt m' n) (hn : As.length = n) (hrm : RM m m') (hb : mC m' ≤ b.1 ∧ mS m' ≤ b.2) (hst : St = As.reverse ++ S) (hcat : (S.map fun v => v.category).sum ≤ 8)
    (h : CALL m' As M (aft m m' pc L S b Q)) : X m pc L St M b Q := by
  subst hst
  intro g p l e R s mid args below meth cc Z C hR H locs cells slots ls hH hw hL hS hl2 hss hc hc2
  have hSS : ∀ v ∈ S, okv M v := fun v hv => hS v (List.mem_append_right _ hv)
  have hAs : ∀ v ∈ As, okv M v := fun v hv => hS v (List.mem_append_left _ (List.mem_reverse.mpr hv))
  have hts := C.2.2.2.2.1
  obtain ⟨f1, f2, f3, f4⟩ := C.2.2.2.2.2.1
  rw [czr]
  have hM := h l g hw hAs
  have hnl := C.2.2.2.2.2.2.2.2.1 _ hl
  exact W_run (va_runSN (As := As.map (cz g)) (rest := S.map (cz g)) (n := n) (Ts := TG) ⟨C.1, C.2.1, C.2.2.1, C.2.2.2.1, hts⟩ hM ⟨va_cnB n hts (mw_good hv.1) rfl rfl rfl hnl (hts _ hv.1.2.1) hv.1.2.2 ⟨Nat.le_trans hrm.1 f1, Nat.le_trans hrm.2 f2⟩, hts _ hv.2, trivial⟩ ⟨cP_blind g M _, fun U hU hW => ⟨rfl, by rw [hU]; exact hH, ku_at C.2.2.2.2.2.2.2 hss U hU hW⟩⟩ rfl (by rw [List.length_map]; exact hn) hl2.1 rfl (lv_room (by rw [cat_cz]; exact hcat)) hd ⟨by omega, by omega⟩) hss (aft_k C hR hL hSS hl2 hc hc2 hb)
theorem x_invI {n i a : Nat} {As : List Value} (hd : decode (mB m) pc = .ok (.invokespecial i, 3)) (hl : Cond.methodLink (mY m).cls i (mY m') ∈ TG) (hv : MIn m' n) (hn : As.length = n) (ha : a % 64 < 61) (hrm : RM m m') (hb : mC m' ≤ b.1 ∧ mS m' ≤ b.2) (hst : St = As.reverse ++ .ref a :: S) (hcat : (S.map fun v => v.category).sum ≤ 8)
    (h : CALL m' (.ref a :: As) M (aft m m' pc L S b Q)) : X m pc L St M b Q := by
  subst hst
  intro g p l e R s mid args below meth cc Z C hR H locs cells slots ls hH hw hL hS hl2 hss hc hc2
  have hSS : ∀ v ∈ S, okv M v := fun v hv => hS v (List.mem_append_right _ (List.mem_cons_of_mem _ hv))
  have hva : okv M (.ref a) := hS _ (List.mem_append_right _ List.mem_cons_self)
  have hAs : ∀ v ∈ As, okv M v := fun v hv => hS v (List.mem_append_left _ (List.mem_reverse.mpr hv))
  have hts := C.2.2.2.2.1
  obtain ⟨f1, f2, f3, f4⟩ := C.2.2.2.2.2.1
  rw [czr, List.map_cons]
  have hM := h l g hw (ok1 hAs hva)
  obtain ⟨hg, hin, hnm, hT0⟩ := hv
  refine W_run (va_runI (b := ca g a) (As := As.map (cz g)) (rest := S.map (cz g)) (n := n) (bytes := mB m') (maxL := mL m') (Ts := TG) ⟨C.1, C.2.1, C.2.2.1, C.2.2.2.1, hts⟩ hM ⟨⟨rfl, rfl, Nat.le_trans hrm.1 f1, Nat.le_trans hrm.2 f2, pay_in hts (mw_good hg), hT0 ▸ List.mem_cons_self, hT0 ▸ hts _ hg.1, hts _ hg.2.1, ⟨hg.2.2.1, hg.2.2.2.1⟩, fun sig h => ?_, hts _ hl⟩, hnm, hts _ hin⟩ ⟨cP_blind g M _, fun U hU hW => ⟨rfl, by rw [hU]; exact hH, ku_at C.2.2.2.2.2.2.2 hss U hU hW⟩⟩ rfl (by rw [List.length_map]; exact hn) hl2.1 rfl (lv_room (by rw [cat_cz]; exact hcat)) hd ⟨by omega, by omega⟩) hss (aft_k C hR hL hSS hl2 hc hc2 hb)
  have h2 := hg.2.2.2.2
  rw [h] at h2
  exact (Option.some.inj h2).symm
/-- Object's constructor -/
theorem x_obj {i a : Nat} (hd : decode (mB m) pc = .ok (.invokespecial i, 3)) (hl : Cond.methodLink (mY m).cls i Lib.objectInit ∈ TG) (h1 : Cond.instanceMethod Lib.objectInit ∈ TG) (h2 : Cond.code Lib.objectInit ⟨#[0xb1]⟩ 1 none ∈ TG) (hf : 1 ≤ mF m) (hcat : (S.map fun v => v.category).sum + 12 ≤ mO m) (h : X m (pc + 3) L S M b Q) : X m pc L (.ref a :: S) M b Q := by
  intro g p l e R s mid args below meth cc Z C hR H locs cells slots ls hH hw hL hS hl2 hss hc hc2
  have hts := C.2.2.2.2.1
  obtain ⟨f1, f2, f3, f4⟩ := C.2.2.2.2.2.1
  have K := h g p l e R s mid args below meth cc Z C hR H locs cells slots ls hH hw hL (tl hS) hl2 hss hc hc2
  refine W.objInit (a := ca g a) (rest := S.map (cz g)) C.1 C.2.1 C.2.2.2.1 (hts _ hl) (hts _ h1) (hts _ h2) rfl (hl2.1.trans C.2.2.1.symm) rfl hd (Nat.le_trans hf f1) ?_ K
  have e0 : (F0 mid pc ls ((Value.ref a :: S).map (cz g))).monitorRoom = 0 := by simp [JFrame.monitorRoom]
  rw [e0, cat_cz]
  omega
/-! ends -/
theorem x_ret0 (hd : decode (mB m) pc = .ok (.return_, 1)) (ht : mT m = none) (h : Q none M) : X m pc L [] M b Q := by
  intro g p l e R s mid args below meth cc Z C hR H locs cells slots ls hH hw hL hS hl2 hss hc hc2
  exact hR none M H locs cells slots pc ls h ⟨hd, ht⟩ hH hw (km_rf M) hss (by omega) (by omega)
theorem x_retI {v : Int32} {ty : FieldType} (hd : decode (mB m) pc = .ok (.ireturn, 1)) (ht : mT m = some ty) (hn : narrow ty (.int v) = .int v) (h : Q (some (.int v)) M) : X m pc L [.int v] M b Q := by
  intro g p l e R s mid args below meth cc Z C hR H locs cells slots ls hH hw hL hS hl2 hss hc hc2
  exact hR (some (.int v)) M H locs cells slots pc ls h ⟨hd, ty, ht, hn⟩ hH hw (km_rf M) hss (by omega) (by omega)
theorem x_retL {v : Int64} (hd : decode (mB m) pc = .ok (.lreturn, 1)) (ht : mT m = some .long) (h : Q (some (.long v)) M) : X m pc L [.long v] M b Q := by
  intro g p l e R s mid args below meth cc Z C hR H locs cells slots ls hH hw hL hS hl2 hss hc hc2
  exact hR (some (.long v)) M H locs cells slots pc ls h ⟨hd, ht⟩ hH hw (km_rf M) hss (by omega) (by omega)
/-! switches -/
theorem x_tblOut {x : Int32} {df lo hi : Int} {offs : Array Int} {len t : Nat} (hd : decode (mB m) pc = .ok (.tableswitch df lo hi offs, len)) (hx : x.toInt < lo ∨ hi < x.toInt) (ht : (pc : Int) + df = (t : Int)) (h : X m t L S M b Q) : X m pc L (.int x :: S) M b Q := X_pu h (fun hL hS => ⟨hL, tl hS⟩) (fun C hl k => lv_tableOut C.1 C.2.1 hd hx ht (k _ hl))
theorem x_tblIn {x : Int32} {df lo hi off : Int} {offs : Array Int} {len t : Nat} (hd : decode (mB m) pc = .ok (.tableswitch df lo hi offs, len)) (h1 : ¬ x.toInt < lo) (h2 : ¬ hi < x.toInt) (ho : offs[(x.toInt - lo).toNat]? = some off) (ht : (pc : Int) + off = (t : Int)) (h : X m t L S M b Q) : X m pc L (.int x :: S) M b Q := X_pu h (fun hL hS => ⟨hL, tl hS⟩) (fun C hl k => lv_tableIn C.1 C.2.1 hd h1 h2 ho ht (k _ hl))
theorem x_lkp {x : Int32} {df off : Int} {ps : Array (Int × Int)} {len t : Nat} (hd : decode (mB m) pc = .ok (.lookupswitch df ps, len)) (hp : (ps.toList.zip (ps.toList.drop 1)).all (fun (a, next) => a.1 < next.1) = true) (ho : Op.lookupswitch.offset ps.toList df x.toInt = off) (ht : (pc : Int) + off = (t : Int)) (h : X m t L S M b Q) : X m pc L (.int x :: S) M b Q := X_pu h (fun hL hS => ⟨hL, tl hS⟩) (fun C hl k => lv_lookup C.1 C.2.1 hd hp ho ht (k _ hl))
end ROWS4
