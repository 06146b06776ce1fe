def gp_wds (M : gp_M) : List Cond := Cond.code M.1 M.2.1 M.2.2.1 M.2.2.2 :: gp_tbl
def gp_rm (n : Nat) : Room := { frames := n, cells := 0, slots := 0, locals := 60 * n }
def gp_pre (G : gp_G) (σ : gp_S) (U : State) : Prop := va_P G.2.1 vwCl (gp_ws G σ) U.heap ∧ va_K G.2.1 vwCl (gp_tys G) U ∧ (∀ w ∈ gp_nest, va_Nw w U) ∧ gp_inj G
def gp_Q (G : gp_G) (K : Option Value → gp_S → Prop) : Array Value → State → Outcome → State → Prop := fun _ st oc t => (∃ (r : Option Value) (σ' : gp_S), oc = .returned (r.map (gp_tr G.2.2.2)) ∧ K r σ' ∧ va_P G.2.1 vwCl (gp_ws G σ') t.heap) ∧ va_F (gp_A G) st t
/-- a CALL: method M with the arguments av, from σ, comes back with K of its answer and the state then; n frames deep at most -/
def gp_C (G : gp_G) (n : Nat) (M : gp_M) (av : List Value) (K : Option Value → gp_S → Prop) (σ : gp_S) : Prop :=
  Met G.1 M.1 (gp_wds M) (gp_rm n) (va_Pc (av.map (gp_tr G.2.2.2)) (gp_pre G σ)) (gp_Q G K) 0 0 (gp_A G)
def gp_okM (G : gp_G) (N : Nat) (M : gp_M) (K : Option Value → gp_S → Prop) (E : gp_E) : Prop :=
  gp_ok G N M E ∧ (eMe E).sig.returnType = M.2.2.2 ∧ (eMe E).locks = false ∧ eK E = 0 ∧ eL E = 0 ∧ eF E = gp_A G ∧ eQ E = MQ (eB E) (gp_Q G K) (eA E) (eS E) 0 0 (gp_A G)
/-- from this place of method M on: it comes back with K -/
def gp_P (G : gp_G) (N : Nat) (M : gp_M) (K : Option Value → gp_S → Prop) (pc : Nat) (L : List (Nat × Value)) (st : List Value) (σ : gp_S) : Prop := ∀ E : gp_E, gp_okM G N M K E → gp_W G E pc L st σ
theorem gp_args_tr (ad : Nat → Nat) : ∀ (av : List Value) (i : Nat), lv_args i (av.map (gp_tr ad)) = gp_trL ad (lv_args i av)
  | [], _ => rfl
  | v :: r, i => by
    show (i, gp_tr ad v) :: lv_args (if (gp_tr ad v).category = 2 then i + 2 else i + 1) (r.map (gp_tr ad)) = (i, gp_tr ad v) :: gp_trL ad (lv_args (if v.category = 2 then i + 2 else i + 1) r)
    rw [gp_tr_cat, gp_args_tr ad r]
theorem gp_sl_len (ad : Nat → Nat) : ∀ (av : List Value), (lg_sl (av.map (gp_tr ad))).length = (lg_sl av).length
  | [] => rfl
  | v :: r => by
    have ih := gp_sl_len ad r
    simp only [lg_sl, List.map_cons, List.flatMap_cons, List.length_append, gp_tr_cat] at ih ⊢
    rw [ih]
    split <;> rfl
theorem gp_C_of {G : gp_G} {N : Nat} {M : gp_M} {K : Option Value → gp_S → Prop} {av : List Value} {σ : gp_S} (hp : plainName M.1.cls = true) (hlen : (lg_sl av).length ≤ M.2.2.1) (h : gp_P G N M K 0 (lv_args 0 av) [] σ) : gp_C G N M av K σ := by
  refine Met.ofW (cc := M.2.1) (maxL := M.2.2.1) (ret := M.2.2.2) hp rfl ?_
  intro p e s m args below meth c s₁ B hml hv
  obtain ⟨rfl, hP, hK, hn, hi⟩ := hv
  have hts := atoms_spec (ws := gp_wds M) B.pre
  have hl := lv_entry (av.map (gp_tr G.2.2.2)) (n := M.2.2.1) (by rw [gp_sl_len]; exact hlen)
  rw [lg_entry_eq]
  generalize (lg_sl (av.map (gp_tr G.2.2.2)) ++ List.replicate (M.2.2.1 - (lg_sl (av.map (gp_tr G.2.2.2))).length) Slot.unset).toArray = ls at hl ⊢
  refine h (p, e, gp_rm N, s, m, (av.map (gp_tr G.2.2.2)).toArray, below, meth, c, 0, 0, MQ below (gp_Q G K) (av.map (gp_tr G.2.2.2)).toArray s 0 0 (gp_A G), gp_A G) ?_ s.heap [] ls hP va_S.rf ?_
  · exact ⟨⟨⟨B.exec, B.bytes, hml, findClass_of_methodNamed B.named, fun w hw => hts w (List.mem_cons_of_mem _ hw)⟩, hn, hK, fun a ha => ⟨a, ha, rfl⟩, hi, Nat.le_refl _, Nat.le_refl _, Nat.le_refl _, Nat.le_refl _⟩, B.returns, B.notSynchronized, rfl, rfl, rfl, rfl⟩
  · rw [gp_args_tr] at hl
    show lv_has ls c.maxLocals _
    rw [hml]
    exact hl
section R2
variable {G : gp_G} {N n : Nat} {M M2 : gp_M} {E : gp_E} {pc : Nat} {L : List (Nat × Value)} {st rest : List Value} {σ : gp_S} {K : Option Value → gp_S → Prop}
/-- ends -/
theorem gp_fin {r : Option Value} (C : gp_okM G N M K E) (hk : K r σ) {H : Heap} {locs : List Loc} (hP : va_P G.2.1 vwCl (gp_ws G σ) H) (hS : va_S (eF E) (eS E).heap H locs) : ∀ t : State, t.heap = H → (eS E).WarmedH t.vm → gp_Q G K (eA E) (eS E) (.returned (r.map (gp_tr G.2.2.2))) t := by
  intro t ht _
  rw [C.2.2.2.2.2.1] at hS
  exact ⟨⟨r, σ, rfl, hk, by rw [ht]; exact hP⟩, hS.F ht⟩
theorem r_vret (C : gp_okM G N M K E) (hr : M.2.2.2 = none) (d : decode M.2.1 pc = .ok (.return_, 1)) (h : K none σ) : gp_W G E pc L [] σ := by
  intro H locs ls hP hS hl
  obtain ⟨C1, c2, c3, c4, c5, c6, c7⟩ := id C
  rw [c7, c4, c5]
  exact W.vret C1.hx C1.hb (c2.trans hr) (gp_fin C h hP hS) (by rw [c6] at hS; exact hS.2.2) d c3
theorem r_iret (C : gp_okM G N M K E) (hr : M.2.2.2 = some .int) {v : Int32} (d : decode M.2.1 pc = .ok (.ireturn, 1)) (h : K (some (.int v)) σ) : gp_W G E pc L [.int v] σ := by
  intro H locs ls hP hS hl
  obtain ⟨C1, c2, c3, c4, c5, c6, c7⟩ := id C
  rw [c7, c4, c5]
  exact W.iret C1.hx C1.hb (c2.trans hr) (gp_fin C h hP hS) (by rw [c6] at hS; exact hS.2.2) d c3
theorem r_zret (C : gp_okM G N M K E) (hr : M.2.2.2 = some .boolean) {v : Int32} (hv : v = 0 ∨ v = 1) (d : decode M.2.1 pc = .ok (.ireturn, 1)) (h : K (some (.int v)) σ) : gp_W G E pc L [.int v] σ := by
  intro H locs ls hP hS hl
  obtain ⟨C1, c2, c3, c4, c5, c6, c7⟩ := id C
  rw [c7, c4, c5]
  exact W.zret C1.hx C1.hb (c2.trans hr) (gp_bool hv).1 (gp_fin C h hP hS) (by rw [c6] at hS; exact hS.2.2) d c3
theorem r_lret (C : gp_okM G N M K E) (hr : M.2.2.2 = some .long) {v : Int64} (d : decode M.2.1 pc = .ok (.lreturn, 1)) (h : K (some (.long v)) σ) : gp_W G E pc L [.long v] σ := by
  intro H locs ls hP hS hl
  obtain ⟨C1, c2, c3, c4, c5, c6, c7⟩ := id C
  rw [c7, c4, c5]
  exact W.lret C1.hx C1.hb (c2.trans hr) (gp_fin C h hP hS) (by rw [c6] at hS; exact hS.2.2) d c3
/-- calls -/
theorem gp_good (hc : Cond.code M2.1 M2.2.1 M2.2.2.1 M2.2.2.2 ∈ gp_tbl) : GoodIn gp_tbl (gp_wds M2) := by
  intro w hw
  have hm : w ∈ gp_tbl := by
    rcases List.mem_cons.mp hw with h | h
    · rw [h]; exact hc
    · exact h
  exact ⟨hm, good_of_word (gp_tbl_good w hm)⟩
def gp_Mb (y : gp_M) (n : Nat) : Prop := Cond.code y.1 y.2.1 y.2.2.1 y.2.2.2 ∈ gp_tbl ∧ Cond.initialized y.1.cls ∈ gp_tbl ∧ (y.1.cls ≠ "java/lang/invoke/MethodHandle" ∧ y.1.cls ≠ "java/lang/invoke/VarHandle" ∧ (parseMethodDescriptor y.1.desc).map (fun d => d.parameters.length) = some n) ∧ y.2.2.1 ≤ 41
def gp_Mv (own : String) (idx : Nat) (y : gp_M) (n : Nat) : Prop := gp_Mb y n ∧ Cond.methodLink own idx y.1 ∈ gp_tbl ∧ Cond.instanceMethod y.1 ∈ gp_tbl ∧ Cond.selects y.1.cls y.1 y.1 ∈ gp_tbl
def gp_Ms (own : String) (idx : Nat) (y : gp_M) (n : Nat) : Prop := gp_Mb y n ∧ Cond.methodLink own idx y.1 ∈ gp_tbl ∧ Cond.static y.1 ∈ gp_tbl
def gp_Mn (own : String) (idx : Nat) (y : gp_M) (n : Nat) : Prop := gp_Mb y n ∧ Cond.methodLinkNest own idx y.1 "GuidedProbes" ∈ gp_nest ∧ Cond.static y.1 ∈ gp_tbl
theorem gp_blind {av : List Value} : FrameBlind (va_Pc av (gp_pre G σ)) := by
  intro a U g mk q
  obtain ⟨q0, qP, qK, qn, qi⟩ := q
  exact ⟨q0, qP, va_K.moved (u := U) (U := U.calling g mk a) (Vm.Alike.refl U.vm) qK, fun w hw => va_Nw.same (by revert w; decide +kernel) (u := U) rfl (qn w hw), qi⟩
theorem gp_Nw_warm {s U : State} (hW : s.WarmedH U.vm) (h : ∀ w ∈ gp_nest, va_Nw w s) : ∀ w ∈ gp_nest, va_Nw w U := by
  intro w hw
  have h1 := h w hw
  simp only [gp_nest, List.mem_cons, List.not_mem_nil, or_false] at hw
  rcases hw with rfl | rfl
  · exact va_Nw.warmM hW h1
  · exact va_Nw.warmM hW h1
theorem gp_preU (C : gp_ok G N M E) {H : Heap} (hP : va_P G.2.1 vwCl (gp_ws G σ) H) {av : List Value} : ∀ U : State, U.heap = H → (eS E).WarmedH U.vm → va_Pc (av.map (gp_tr G.2.2.2)) (gp_pre G σ) (av.map (gp_tr G.2.2.2)).toArray U :=
  fun U hU hW => ⟨rfl, by rw [hU]; exact hP, va_K.moved hW.alike C.hK, gp_Nw_warm hW C.hnest, C.hinj⟩
/-- behind a call -/
theorem gp_back (C : gp_ok G N M E) {H : Heap} {locs : List Loc} {ls : Array Slot} {a : Array Value} (hS : va_S (eF E) (eS E).heap H locs) (hl : lv_has ls (eC E).maxLocals (gp_trL G.2.2.2 L)) {st0 : List Value}
    (hr : va_Run (eP E) G.1 (eE E) (eR E) (eS E) (eM E) (eA E) (eB E) (eMe E) (eC E) H locs (eK E) (eL E) 0 0 (F0 (eM E) pc ls st0) (rest.map (gp_tr G.2.2.2)) (gp_Q G (fun r σ' => gp_W G E (pc + 3) L (r.toList ++ rest) σ') a) (gp_A G)) :
    W (eP E) G.1 (eE E) (eR E) (eS E) (eM E) (eA E) (eB E) (eMe E) (eC E) H locs (eK E) (eL E) (eQ E) (F0 (eM E) pc ls st0) := by
  have hsub : ∀ q, gp_A G q → eF E q := fun q hq => by obtain ⟨b, hb, rfl⟩ := hq; exact C.hF b hb
  intro T hT X
  obtain ⟨v, st₀, t, T', L', h0, X', hL, e1, e2, ⟨⟨r, σ', hv, hk, hP'⟩, hz, hkeep⟩, go⟩ := hr T hT X
  cases hv
  rw [h0] at hz hkeep
  obtain ⟨t2, a1, b1⟩ := hk T'.heap (locs ++ L') ls (by rw [e1]; exact hP') ⟨Nat.le_trans hS.1 (by rw [e1]; exact hz), fun q h1 h2 => by rw [e1, hkeep q (Nat.lt_of_lt_of_le h1 hS.1) (fun z => h2 (hsub q z))]; exact hS.2.1 q h1 h2, fun q hq => by
      rcases List.mem_append.mp hq with h | h
      · exact hS.2.2 q h
      · exact hsub _ (hL q h)⟩ hl T' rfl X'
  refine ⟨t2, go t2 ?_, b1⟩
  have he : (r.toList ++ rest).map (gp_tr G.2.2.2) = (r.map (gp_tr G.2.2.2)).toList ++ rest.map (gp_tr G.2.2.2) := by cases r <;> simp
  rw [he] at a1
  exact a1
theorem gp_rest (rest : List Value) (ad : Nat → Nat) : ((rest.map (gp_tr ad)).map fun v => v.category) = rest.map fun v => v.category := by
  rw [List.map_map]
  congr 1
  funext v
  exact gp_tr_cat ad v
theorem r_callV (C : gp_ok G N M E) {idx b ci k : Nat} {fs : List gp_K1} {As : List Value} (mv : gp_Mv M.1.cls idx M2 k) (hb : b < 50) (hs : gp_sh b = .inr (ci, fs)) (hci : (vwCl[ci]?).map (fun q => q.1) = some M2.1.cls) (hN : n + 1 ≤ N) (hst : st = As.reverse ++ .ref b :: rest) (hk : As.length = k) (hcat : (rest.map fun v => v.category).sum ≤ 8) (d : decode M.2.1 pc = .ok (.invokevirtual idx, 3))
    (h : gp_C G n M2 (.ref b :: As) (fun r σ' => gp_W G E (pc + 3) L (r.toList ++ rest) σ') σ) : gp_W G E pc L st σ := by
  subst hst
  obtain ⟨⟨h1, h2, h3, h4⟩, h5, h6, h7⟩ := mv
  intro H locs ls hP hS hl
  obtain ⟨q, hq, hqc⟩ : ∃ q, vwCl[ci]? = some q ∧ q.1 = M2.1.cls := by
    cases hv : vwCl[ci]? with
    | none => rw [hv] at hci; cases hci
    | some q => rw [hv] at hci; exact ⟨q, rfl, Option.some.inj hci⟩
  have hlo := C.hlo
  have hfr := C.hfr
  refine gp_back (rest := rest) C hS hl (va_runV (Ts := gp_tbl) (C := M2.1.cls) (bytes := M2.2.1) (maxL := M2.2.2.1) (ret := M2.2.2.2) (n := k) (As := As.map (gp_tr G.2.2.2)) (nL := (eC E).maxLocals) ⟨C.hx, C.hb, rfl, C.hown, C.hts⟩ h ⟨callB_of k C.hts (gp_good h1) rfl rfl rfl (C.hts _ h2) (C.hts _ h5) h3 ⟨Nat.le_trans hN hfr, ?_⟩, C.hts _ h6, C.hts _ h7⟩ ⟨gp_blind, ?_, gp_preU (av := .ref b :: As) C hP⟩ rfl (by rw [List.length_map]; exact hk) hl.1 ?_ (lv_room (by rw [gp_rest]; exact hcat)) d ⟨C.hce, C.hsl⟩)
  · show 8 + (M2.2.2.1 + 11) + 60 * n ≤ (eR E).locals
    omega
  · have := va_recv C.hK hP hq (gp_ob hb hs)
    rwa [hqc] at this
  · show (As.reverse ++ Value.ref b :: rest).map (gp_tr G.2.2.2) = _
    rw [List.map_append, List.map_reverse]
    rfl
theorem r_callS (C : gp_ok G N M E) {idx k : Nat} {As : List Value} (mv : gp_Ms M.1.cls idx M2 k) (hN : n + 1 ≤ N) (hst : st = As.reverse ++ rest) (hk : As.length = k) (hcat : (rest.map fun v => v.category).sum ≤ 8) (d : decode M.2.1 pc = .ok (.invokestatic idx, 3))
    (h : gp_C G n M2 As (fun r σ' => gp_W G E (pc + 3) L (r.toList ++ rest) σ') σ) : gp_W G E pc L st σ := by
  subst hst
  obtain ⟨⟨h1, h2, h3, h4⟩, h5, h6⟩ := mv
  intro H locs ls hP hS hl
  have hlo := C.hlo
  have hfr := C.hfr
  refine gp_back (rest := rest) C hS hl (va_runS (Ts := gp_tbl) (bytes := M2.2.1) (maxL := M2.2.2.1) (ret := M2.2.2.2) (n := k) (As := As.map (gp_tr G.2.2.2)) (nL := (eC E).maxLocals) ⟨C.hx, C.hb, rfl, C.hown, C.hts⟩ h ⟨callB_of k C.hts (gp_good h1) rfl rfl rfl (C.hts _ h2) (C.hts _ h5) h3 ⟨Nat.le_trans hN hfr, ?_⟩, C.hts _ h6⟩ ⟨gp_blind, gp_preU (av := As) C hP⟩ rfl (by rw [List.length_map]; exact hk) hl.1 ?_ (lv_room (by rw [gp_rest]; exact hcat)) d ⟨C.hce, C.hsl⟩)
  · show 8 + (M2.2.2.1 + 11) + 60 * n ≤ (eR E).locals
    omega
  · show (As.reverse ++ rest).map (gp_tr G.2.2.2) = _
    rw [List.map_append, List.map_reverse]
theorem r_callN (C : gp_ok G N M E) {idx k : Nat} {As : List Value} (mv : gp_Mn M.1.cls idx M2 k) (hN : n + 1 ≤ N) (hst : st = As.reverse ++ rest) (hk : As.length = k) (hcat : (rest.map fun v => v.category).sum ≤ 8) (d : decode M.2.1 pc = .ok (.invokestatic idx, 3))
    (h : gp_C G n M2 As (fun r σ' => gp_W G E (pc + 3) L (r.toList ++ rest) σ') σ) : gp_W G E pc L st σ := by
  subst hst
  obtain ⟨⟨h1, h2, h3, h4⟩, h5, h6⟩ := mv
  intro H locs ls hP hS hl
  have hlo := C.hlo
  have hfr := C.hfr
  refine gp_back (rest := rest) C hS hl (va_runSN (Ts := gp_tbl) (bytes := M2.2.1) (maxL := M2.2.2.1) (ret := M2.2.2.2) (n := k) (As := As.map (gp_tr G.2.2.2)) (nL := (eC E).maxLocals) ⟨C.hx, C.hb, rfl, C.hown, C.hts⟩ h ⟨va_cnB k C.hts (gp_good h1) rfl rfl rfl (C.hnest _ h5) (C.hts _ h2) h3 ⟨Nat.le_trans hN hfr, ?_⟩, C.hts _ h6, trivial⟩ ⟨gp_blind, gp_preU (av := As) C hP⟩ rfl (by rw [List.length_map]; exact hk) hl.1 ?_ (lv_room (by rw [gp_rest]; exact hcat)) d ⟨C.hce, C.hsl⟩)
  · show 8 + (M2.2.2.1 + 11) + 60 * n ≤ (eR E).locals
    omega
  · show (As.reverse ++ rest).map (gp_tr G.2.2.2) = _
    rw [List.map_append, List.map_reverse]
end R2
