/-! THE GROWING MACHINE: worlds while the constructors run -/
abbrev gq_T : Type := List (ClassId × FieldType)
def gq_nest : List Cond := [.methodLinkNest RX9 9 yX3_init "GuidedProbes", .methodLinkNest RX9 18 yX0_init "GuidedProbes", .methodLinkNest RX9 28 yX6_init "GuidedProbes", .methodLinkNest RX9 44 yX2_init "GuidedProbes", .methodLinkNest RX9 54 yX1_init "GuidedProbes", .methodLinkNest RX9 68 yX7_init "GuidedProbes"]
def gq_W (l : Launch) (D : va_G) (E : gp_E) (k n pc : Nat) (L : List (Nat × Value)) (st : List Value) (ws : va_W) (tys : gq_T) : Prop :=
  ∀ (H : Heap) (locs : List Loc) (ls : Array Slot), va_P D vwCl ws H → va_D (eF E) ws → va_K D vwCl tys (eS E) → va_S (eF E) (eS E).heap H locs → lv_has ls (eC E).maxLocals L →
    W (eP E) l (eE E) (eR E) (eS E) (eM E) (eA E) (eB E) (eMe E) (eC E) H locs k n (eQ E) (F0 (eM E) pc ls st)
def gq_ok (M : gp_M) (R : Room) (E : gp_E) : Prop :=
  ((eP E).tables.exec = Jvm.exec ∧ (eC E).code = M.2.1 ∧ (eC E).maxLocals = M.2.2.1 ∧ (eS E).vm.findClass M.1.cls = some (eM E).cls ∧ (∀ w ∈ gp_tbl, w.before (eA E) (eS E) = true)) ∧ eR E = R ∧ (∀ q, (eS E).heap.size ≤ q → eF E q) ∧ (∀ w ∈ gq_nest, va_Nw w (eS E))
def gq_rm (n mc ms : Nat) : Room := { frames := n, cells := mc, slots := ms, locals := 60 * n }
def gq_pre (D : va_G) (ws : va_W) (tys : gq_T) (sz : Nat) (U : State) : Prop := U.heap.size = sz ∧ va_P D vwCl ws U.heap ∧ va_K D vwCl tys U ∧ va_D (fun _ => True) ws ∧ (∀ w ∈ gq_nest, va_Nw w U)
def gq_Q (D : va_G) (ws : va_W) (sz : Nat) (K : va_W → gq_T → Prop) : Array Value → State → Outcome → State → Prop := fun _ st oc t => (∃ (w1 : va_W) (t1 : gq_T), oc = .returned none ∧ K w1 t1 ∧ va_P D vwCl w1 t.heap ∧ va_K D vwCl t1 t ∧ va_D (va_A ws sz) w1) ∧ va_F (va_A ws sz) st t
def gq_C (l : Launch) (D : va_G) (n mc ms : Nat) (M : gp_M) (av : List Value) (ws : va_W) (tys : gq_T) (K : va_W → gq_T → Prop) : Prop :=
  ∀ sz : Nat, Met l M.1 (gp_wds M) (gq_rm n mc ms) (va_Pc av (gq_pre D ws tys sz)) (gq_Q D ws sz K) mc ms (va_A ws sz)
def gq_okM (D : va_G) (n mc ms : Nat) (M : gp_M) (ws : va_W) (K : va_W → gq_T → Prop) (E : gp_E) : Prop :=
  gq_ok M (gq_rm n mc ms) E ∧ (eMe E).sig.returnType = none ∧ (eMe E).locks = false ∧ eF E = va_A ws (eS E).heap.size ∧ eQ E = MQ (eB E) (gq_Q D ws (eS E).heap.size K) (eA E) (eS E) mc ms (va_A ws (eS E).heap.size) ∧ (eMe E).name = M.1.name
section Q0
variable {l : Launch} {D : va_G} {k n mc ms nf pc : Nat} {M M2 : gp_M} {R : Room} {E : gp_E} {L : List (Nat × Value)} {st rest : List Value} {ws wr wc : va_W} {tys : gq_T} {K : va_W → gq_T → Prop}
theorem gq_C_of {av : List Value} (hp : plainName M.1.cls = true) (hret : M.2.2.2 = none) (hlen : (lg_sl av).length ≤ M.2.2.1) (h : ∀ E, gq_okM D nf mc ms M ws K E → gq_W l D E 0 0 0 (lv_args 0 av) [] ws tys) : gq_C l D nf mc ms M av ws tys K := by
  intro sz
  refine Met.ofW (cc := M.2.1) (maxL := M.2.2.1) (ret := M.2.2.2) hp rfl ?_
  intro p e s m args below meth c s₁ B hml hv
  obtain ⟨rfl, rfl, hP, hK, hD, hn⟩ := hv
  have hts := atoms_spec (ws := gp_wds M) B.pre
  have hl := lv_entry av (n := M.2.2.1) hlen
  rw [lg_entry_eq]
  generalize (lg_sl av ++ List.replicate (M.2.2.1 - (lg_sl av).length) Slot.unset).toArray = ls at hl ⊢
  refine h (p, e, gq_rm nf mc ms, s, m, av.toArray, below, meth, c, 0, 0, MQ below (gq_Q D ws s.heap.size K) av.toArray s mc ms (va_A ws s.heap.size), va_A ws s.heap.size) ⟨⟨⟨B.exec, B.bytes, hml, findClass_of_methodNamed B.named, fun w hw => hts w (List.mem_cons_of_mem _ hw)⟩, rfl, fun q hq => Or.inr hq, hn⟩, B.returns.trans hret, B.notSynchronized, rfl, rfl, (name_of_methodNamed B.named B.method).1⟩ s.heap [] ls hP hD.self hK va_S.rf ?_
  show lv_has ls c.maxLocals _
  rw [hml]
  exact hl
theorem q_vret (C : gq_okM D nf mc ms M ws K E) {w1 : va_W} {t1 : gq_T} (hk : k ≤ mc) (hn : n ≤ ms) (d : decode M.2.1 pc = .ok (.return_, 1)) (h : K w1 t1) : gq_W l D E k n pc L [] w1 t1 := by
  intro H locs ls hP hD hK hS hl
  obtain ⟨C1, c2, c3, c4, c5, c6⟩ := C
  rw [c5]
  rw [c4] at hD hS
  refine W.widen (k := mc) (n := ms) hk hn ?_
  exact W.vret C1.1.1 C1.1.2.1 c2 (fun t ht hW => ⟨⟨w1, t1, rfl, h, by rw [ht]; exact hP, va_K.moved hW.alike hK, hD⟩, hS.F ht⟩) hS.2.2 d c3
theorem q_aload_n (C : gq_ok M R E) {j : Fin 4} {i x : Nat} (d : decode M.2.1 pc = .ok (.aload_n j, 1)) (kk : Nat) (hi : (j : Nat) = i) (hk : L[kk]? = some (i, .ref x)) (h : gq_W l D E k n (pc + 1) L (.ref x :: st) ws tys) : gq_W l D E k n pc L st ws tys :=
  fun H locs ls hP hD hK hS hl => lv_aload_n C.1.1 C.1.2.1 d hi (lv_at hl kk hk) (h H locs ls hP hD hK hS hl)
theorem q_astore_n (C : gq_ok M R E) {j : Fin 4} {i x : Nat} {L' : List (Nat × Value)} (d : decode M.2.1 pc = .ok (.astore_n j, 1)) (hi : (j : Nat) = i) (hn : i < M.2.2.1) (hL : gp_put1 L i (.ref x) = L') (h : gq_W l D E k n (pc + 1) L' st ws tys) : gq_W l D E k n pc L (.ref x :: st) ws tys := by
  subst hL
  exact fun H locs ls hP hD hK hS hl => lv_astore_n (lv' := gp_put1 L i (.ref x)) C.1.1 C.1.2.1 d hi hl (by rw [C.1.2.2.1]; exact hn) rfl (fun ls' hl' => h H locs ls' hP hD hK hS hl')
theorem q_iload_n (C : gq_ok M R E) {j : Fin 4} {i : Nat} {x : Int32} (d : decode M.2.1 pc = .ok (.iload_n j, 1)) (kk : Nat) (hi : (j : Nat) = i) (hk : L[kk]? = some (i, .int x)) (h : gq_W l D E k n (pc + 1) L (.int x :: st) ws tys) : gq_W l D E k n pc L st ws tys :=
  fun H locs ls hP hD hK hS hl => lv_iload_n C.1.1 C.1.2.1 d hi (lv_at hl kk hk) (h H locs ls hP hD hK hS hl)
theorem q_istore_n (C : gq_ok M R E) {j : Fin 4} {i : Nat} {x : Int32} {L' : List (Nat × Value)} (d : decode M.2.1 pc = .ok (.istore_n j, 1)) (hi : (j : Nat) = i) (hn : i < M.2.2.1) (hL : gp_put1 L i (.int x) = L') (h : gq_W l D E k n (pc + 1) L' st ws tys) : gq_W l D E k n pc L (.int x :: st) ws tys := by
  subst hL
  exact fun H locs ls hP hD hK hS hl => lv_istore_n (lv' := gp_put1 L i (.int x)) C.1.1 C.1.2.1 d hi hl (by rw [C.1.2.2.1]; exact hn) rfl (fun ls' hl' => h H locs ls' hP hD hK hS hl')
theorem q_iinc (C : gq_ok M R E) {i : Nat} {z : Int} {x v : Int32} {L' : List (Nat × Value)} (d : decode M.2.1 pc = .ok (.iinc i z, 3)) (kk : Nat) (hk : L[kk]? = some (i, .int x)) (hv : x + Int32.ofInt z = v) (hn : i < M.2.2.1) (hL : gp_put1 L i (.int v) = L') (h : gq_W l D E k n (pc + 3) L' st ws tys) : gq_W l D E k n pc L st ws tys := by
  subst hL
  exact fun H locs ls hP hD hK hS hl => lv_iinc (lv' := gp_put1 L i (.int v)) C.1.1 C.1.2.1 d hl (k := kk) hk hv (by rw [C.1.2.2.1]; exact hn) rfl (fun ls' hl' => h H locs ls' hP hD hK hS hl')
theorem q_iconst (C : gq_ok M R E) {z : Int} {v : Int32} (d : decode M.2.1 pc = .ok (.iconst z, 1)) (hv : Int32.ofInt z = v) (h : gq_W l D E k n (pc + 1) L (.int v :: st) ws tys) : gq_W l D E k n pc L st ws tys :=
  fun H locs ls hP hD hK hS hl => lv_iconst C.1.1 C.1.2.1 d hv (h H locs ls hP hD hK hS hl)
theorem q_lconst (C : gq_ok M R E) {z : Fin 2} {v : Int64} (d : decode M.2.1 pc = .ok (.lconst z, 1)) (hv : Int64.ofNat (z : Nat) = v) (h : gq_W l D E k n (pc + 1) L (.long v :: st) ws tys) : gq_W l D E k n pc L st ws tys :=
  fun H locs ls hP hD hK hS hl => lv_lconst C.1.1 C.1.2.1 d hv (h H locs ls hP hD hK hS hl)
theorem q_bipush (C : gq_ok M R E) {z : Int} {v : Int32} (d : decode M.2.1 pc = .ok (.bipush z, 2)) (hv : (Int8.ofInt z).toInt32 = v) (h : gq_W l D E k n (pc + 2) L (.int v :: st) ws tys) : gq_W l D E k n pc L st ws tys :=
  fun H locs ls hP hD hK hS hl => lv_bipush C.1.1 C.1.2.1 d hv (h H locs ls hP hD hK hS hl)
theorem q_dup (C : gq_ok M R E) {x : Nat} (d : decode M.2.1 pc = .ok (.dup, 1)) (h : gq_W l D E k n (pc + 1) L (.ref x :: .ref x :: st) ws tys) : gq_W l D E k n pc L (.ref x :: st) ws tys :=
  fun H locs ls hP hD hK hS hl => lv_dup C.1.1 C.1.2.1 d rfl (h H locs ls hP hD hK hS hl)
theorem q_goto (C : gq_ok M R E) {off : Int} (t : Nat) (d : decode M.2.1 pc = .ok (.goto off, 3)) (ht : (pc : Int) + off = (t : Int)) (h : gq_W l D E k n t L st ws tys) : gq_W l D E k n pc L st ws tys :=
  fun H locs ls hP hD hK hS hl => lv_goto (tgt := t) C.1.1 C.1.2.1 d ht (h H locs ls hP hD hK hS hl)
theorem q_icmp_ge (C : gq_ok M R E) {x y : Int32} {off : Int} (t : Nat) (d : decode M.2.1 pc = .ok (.if_icmp .ge off, 3)) (ht : (pc : Int) + off = (t : Int)) (h1 : y ≤ x → gq_W l D E k n t L st ws tys) (h2 : ¬ y ≤ x → gq_W l D E k n (pc + 3) L st ws tys) : gq_W l D E k n pc L (.int y :: .int x :: st) ws tys :=
  fun H locs ls hP hD hK hS hl => lv_icmp_ge (tgt := t) C.1.1 C.1.2.1 d ht (fun q => h1 q H locs ls hP hD hK hS hl) (fun q => h2 q H locs ls hP hD hK hS hl)
theorem q_alen (C : gq_ok M R E) (q0 t0 : Nat) {a N : Nat} {cA : ClassId} {g : Nat → Int32} (ha : ws[q0]? = some (a, .inl (cA, N, .inl g))) (ht : tys[t0]? = some (cA, .int)) (d : decode M.2.1 pc = .ok (.arraylength, 1)) (h : gq_W l D E k n (pc + 1) L (.int (nI N) :: st) ws tys) : gq_W l D E k n pc L (.ref a :: st) ws tys :=
  fun H locs ls hP hD hK hS hl => va_alen C.1.1 C.1.2.1 hK hP q0 t0 ha ht rfl d (h H locs ls hP hD hK hS hl)
theorem q_iast (C : gq_ok M R E) (q0 t0 : Nat) {a N : Nat} {cA : ClassId} {g : Nat → Int32} {i x : Int32} (ha : ws[q0]? = some (a, .inl (cA, N, .inl g))) (ht : tys[t0]? = some (cA, .int)) (hin : vp_in i N) (d : decode M.2.1 pc = .ok (.iastore, 1)) (h : gq_W l D E k n (pc + 1) L st (ws.set q0 (a, .inl (cA, N, .inl (upd g i.toNatClampNeg x)))) tys) : gq_W l D E k n pc L (.int x :: .int i :: .ref a :: st) ws tys :=
  fun H locs ls hP hD hK hS hl => va_iast C.1.1 C.1.2.1 hK hP hD hS q0 t0 ha ht hin d (fun H1 locs1 hP1 hD1 hS1 => h H1 locs1 ls hP1 hD1 hK hS1 hl)
theorem q_newI (C : gq_ok M R E) {z : Int32} {N : Nat} (harr : Cond.arrayClass .int ∈ gp_tbl) (hz : z = nI N) (hN : N < 1000) (hc : k + 1 ≤ R.cells) (hs : n + N ≤ R.slots) (d : decode M.2.1 pc = .ok (.newarray .int, 2)) (h : ∀ (q : Nat) (cA : ClassId), gq_W l D E (k + 1) (n + N) (pc + 2) L (.ref q :: st) (ws ++ [(q, .inl (cA, N, .inl (fun _ => 0)))]) (tys ++ [(cA, .int)])) : gq_W l D E k n pc L (.int z :: st) ws tys := by
  subst hz
  intro H locs ls hP hD hK hS hl
  refine va_newa (ty := .int) (N' := N) (a0 := (N, .inl (fun _ => 0))) C.1.1 C.1.2.1 (atype := .int) (C.1.2.2.2.2 _ harr) rfl hK hP hD hS C.2.2.1 (fun _ => rfl) (nI_pos (by omega)) (nI_clamp (by omega)) ?_ (by rw [C.2.1]; exact hc) (by rw [C.2.1]; exact hs) d (fun q cA H1 hK1 hP1 hD1 hS1 => h q cA H1 locs ls hP1 hD1 hK1 hS1 hl)
  show N * 4 ≤ 536870912
  omega
theorem q_newJ (C : gq_ok M R E) {z : Int32} {N : Nat} (harr : Cond.arrayClass .long ∈ gp_tbl) (hz : z = nI N) (hN : N < 1000) (hc : k + 1 ≤ R.cells) (hs : n + N ≤ R.slots) (d : decode M.2.1 pc = .ok (.newarray .long, 2)) (h : ∀ (q : Nat) (cA : ClassId), gq_W l D E (k + 1) (n + N) (pc + 2) L (.ref q :: st) (ws ++ [(q, .inl (cA, N, .inr (.inl (fun _ => 0))))]) (tys ++ [(cA, .long)])) : gq_W l D E k n pc L (.int z :: st) ws tys := by
  subst hz
  intro H locs ls hP hD hK hS hl
  refine va_newa (ty := .long) (N' := N) (a0 := (N, .inr (.inl (fun _ => 0)))) C.1.1 C.1.2.1 (atype := .long) (C.1.2.2.2.2 _ harr) rfl hK hP hD hS C.2.2.1 (fun _ => rfl) (nI_pos (by omega)) (nI_clamp (by omega)) ?_ (by rw [C.2.1]; exact hc) (by rw [C.2.1]; exact hs) d (fun q cA H1 hK1 hP1 hD1 hS1 => h q cA H1 locs ls hP1 hD1 hK1 hS1 hl)
  show N * 8 ≤ 536870912
  omega
/-- a class that can be made: its number and its fields' first values -/
def gq_Nw (own : String) (idx ci : Nat) (fs : List Value) : Prop := ∃ (Cn : String) (T : u_T) (N : Nat) (ty : Nat → FieldType), vwCl[ci]? = some (Cn, T, N) ∧ N = fs.length ∧ (∀ w ∈ u_ws Cn T N, w ∈ gp_tbl) ∧ (∀ k, k < N → parseFieldDescriptor (T k).2.2.1 = some (ty k)) ∧ Cond.classLink own idx Cn ∈ gp_tbl ∧ Cond.instantiable Cn N ∈ gp_tbl ∧ Cond.initialized Cn ∈ gp_tbl ∧ (∀ j, j < N → defaultValue (ty j) = vp_V fs j)
theorem q_new (C : gq_ok M R E) {idx ci : Nat} {fs : List Value} (nw : gq_Nw M.1.cls idx ci fs) (hc : k + 1 ≤ R.cells) (hs : n + fs.length ≤ R.slots) (d : decode M.2.1 pc = .ok (.new idx, 3)) (h : ∀ q : Nat, gq_W l D E (k + 1) (n + fs.length) (pc + 3) L (.ref q :: st) (ws ++ [(q, .inr (ci, fs))]) tys) : gq_W l D E k n pc L st ws tys := by
  obtain ⟨Cn, T, N, ty, h1, h2, h3, h4, h5, h6, h7, h8⟩ := nw
  subst h2
  intro H locs ls hP hD hK hS hl
  exact va_new (ci := ci) (fs := fs) C.1.1 C.1.2.1 C.1.2.2.2.2 h3 ty h4 C.1.2.2.2.1 (C.1.2.2.2.2 _ h5) (C.1.2.2.2.2 _ h6) (C.1.2.2.2.2 _ h7) hK hP hD hS C.2.2.1 h1 h8 (by rw [C.2.1]; exact hc) (by rw [C.2.1]; exact hs) d (fun q H1 hP1 hD1 hS1 => h q H1 locs ls hP1 hD1 hK hS1 hl)
theorem q_get (C : gq_ok M R E) {idx ci kf q0 a : Nat} {fs : List Value} {v : Value} (fl : gp_Fl M.1.cls idx ci kf) (he : ws[q0]? = some (a, .inr (ci, fs))) (hv : fs[kf]? = some v) (d : decode M.2.1 pc = .ok (.getfield idx, 3)) (h : gq_W l D E k n (pc + 3) L (v :: st) ws tys) : gq_W l D E k n pc L (.ref a :: st) ws tys := by
  obtain ⟨Cn, T, N, ty, h1, h2, h3, h4, h5, h6⟩ := fl
  intro H locs ls hP hD hK hS hl
  exact va_get C.1.1 C.1.2.1 C.1.2.2.2.2 h3 C.1.2.2.2.1 hK hP q0 he h1 kf h2 (C.1.2.2.2.2 _ h6) (fun _ q => q) hv d (h H locs ls hP hD hK hS hl)
theorem q_put (C : gq_ok M R E) (hi : (eMe E).name = "<init>") {idx ci kf a : Nat} (q0 : Nat) {fs : List Value} {v : Value} (fl : gp_Fl M.1.cls idx ci kf) (he : ws[q0]? = some (a, .inr (ci, fs))) (Q : vw_C) (hQ : vwCl[ci]? = some Q) (hd : (Q.2.1 kf).1 = M.1.cls) (ty : FieldType) (ht : parseFieldDescriptor (Q.2.1 kf).2.2.1 = some ty) (hn : narrow ty v = v) (hfit : fits ty v = true) (hl0 : kf < fs.length) (d : decode M.2.1 pc = .ok (.putfield idx, 3)) {ws' : va_W} (hw : ws.set q0 (a, .inr (ci, fs.set kf v)) = ws') (h : gq_W l D E k n (pc + 3) L st ws' tys) : gq_W l D E k n pc L (v :: .ref a :: st) ws tys := by
  subst hw
  obtain ⟨Cn, T, N, tyF, h1, h2, h3, h4, h5, h6⟩ := fl
  rw [h1] at hQ
  cases hQ
  intro H locs ls hP hD hK hS hl
  cases hf : (T kf).2.2.2 with
  | false => exact va_put (D := D) (v := v) (ty := ty) C.1.1 C.1.2.1 C.1.2.2.2.2 h3 tyF h4 h5 C.1.2.2.2.1 hK hP hD hS q0 he h1 kf h2 (C.1.2.2.2.2 _ h6) (fun _ q => q) hf ht hn hfit hl0 d (fun H1 locs1 hP1 hD1 hS1 => h H1 locs1 ls hP1 hD1 hK hS1 hl)
  | true => exact va_putF (D := D) (v := v) (ty := ty) C.1.1 C.1.2.1 C.1.2.2.2.2 h3 tyF h4 h5 C.1.2.2.2.1 hK hP hD hS q0 he h1 kf h2 (C.1.2.2.2.2 _ h6) (fun _ q => q) hf hi hd ht hn hfit hl0 d (fun H1 locs1 hP1 hD1 hS1 => h H1 locs1 ls hP1 hD1 hK hS1 hl)
theorem q_obj (C : gq_ok M R E) {idx a : Nat} (h1 : Cond.methodLink M.1.cls idx objectInit ∈ gp_tbl) (h2 : Cond.instanceMethod objectInit ∈ gp_tbl) (h3 : Cond.code objectInit ⟨#[0xb1]⟩ 1 none ∈ gp_tbl) (hf : 1 ≤ R.frames) (hlo : 60 ≤ R.locals) (hcat : (st.map fun v => v.category).sum ≤ 8) (d : decode M.2.1 pc = .ok (.invokespecial idx, 3)) (h : gq_W l D E k n (pc + 3) L st ws tys) : gq_W l D E k n pc L (.ref a :: st) ws tys := by
  intro H locs ls hP hD hK hS hl
  refine W.objInit C.1.1 C.1.2.1 C.1.2.2.2.1 (C.1.2.2.2.2 _ h1) (C.1.2.2.2.2 _ h2) (C.1.2.2.2.2 _ h3) rfl hl.1 rfl d (by rw [C.2.1]; exact hf) ?_ (W.eq (g2 := F0 (eM E) (pc + 3) ls st) rfl (h H locs ls hP hD hK hS hl))
  have := lv_room (m := eM E) (pc := pc) (ls := ls) (rest := .ref a :: st) hcat
  rw [C.2.1]
  omega
theorem gq_join {A0 : Nat → Prop} {w1 : va_W} {H H1 : Heap} (hP : va_P D vwCl (wr ++ wc) H) (hD : va_D A0 (wr ++ wc)) (hk : ∀ q : Nat, q < H.size → ¬ va_A wc H.size q → H1[q]? = H[q]?) (hF : ∀ q, va_A wc H.size q → A0 q) (hP1 : va_P D vwCl w1 H1) (hD1 : va_D (va_A wc H.size) w1) : va_P D vwCl (wr ++ w1) H1 ∧ va_D A0 (wr ++ w1) := by
  have inl : ∀ {w : va_W} {k : Nat} {x : Nat × va_E}, wr[k]? = some x → (wr ++ w)[k]? = some x := fun {w k x} hx => by rw [List.getElem?_append_left (List.getElem?_eq_some_iff.mp hx).1]; exact hx
  have inr : ∀ {w : va_W} {k : Nat} {x : Nat × va_E}, w[k]? = some x → (wr ++ w)[wr.length + k]? = some x := fun {w k x} hx => by rw [List.getElem?_append_right (by omega), show wr.length + k - wr.length = k by omega]; exact hx
  have apart : ∀ (k : Nat) (x : Nat × va_E), wr[k]? = some x → x.1 < H.size ∧ ¬ va_A wc H.size x.1 := by
    intro k x hx
    have hlt := (hP k x (inl hx)).lt
    refine ⟨hlt, fun q => ?_⟩
    rcases q with ⟨j, e, hj⟩ | q
    · have := hD.1 k (wr.length + j) x (x.1, e) (inl hx) (inr hj) rfl
      have := (List.getElem?_eq_some_iff.mp hx).1
      omega
    · omega
  have cas : ∀ {k : Nat} {x : Nat × va_E}, (wr ++ w1)[k]? = some x → wr[k]? = some x ∧ k < wr.length ∨ w1[k - wr.length]? = some x ∧ wr.length ≤ k := by
    intro k x hx
    by_cases e : k < wr.length
    · rw [List.getElem?_append_left e] at hx; exact Or.inl ⟨hx, e⟩
    · rw [List.getElem?_append_right (by omega)] at hx; exact Or.inr ⟨hx, by omega⟩
  have hPr : va_P D vwCl wr H := fun k x hx => hP k x (inl hx)
  refine ⟨(hPr.kept (fun k x hx => hk x.1 (apart k x hx).1 (apart k x hx).2)).app hP1, fun i j p q hi hj hpq => ?_, fun k q hq => ?_⟩
  · rcases cas hi with ⟨a1, a2⟩ | ⟨a1, a2⟩ <;> rcases cas hj with ⟨b1, b2⟩ | ⟨b1, b2⟩
    · exact hD.1 i j p q (inl a1) (inl b1) hpq
    · exact absurd (by rw [hpq]; exact hD1.2 _ _ b1) (apart i p a1).2
    · exact absurd (by rw [← hpq]; exact hD1.2 _ _ a1) (apart j q b1).2
    · have := hD1.1 _ _ p q a1 b1 hpq
      omega
  · rcases cas hq with ⟨a1, a2⟩ | ⟨a1, a2⟩
    · exact hD.2 k q (inl a1)
    · exact hF _ (hD1.2 _ _ a1)
theorem gq_blind {av : List Value} {sz : Nat} : FrameBlind (va_Pc av (gq_pre D wc tys sz)) := by
  intro a U g mk q
  obtain ⟨q0, qz, qP, qK, qD, qn⟩ := q
  exact ⟨q0, qz, qP, va_K.moved (u := U) (U := U.calling g mk a) (Vm.Alike.refl U.vm) qK, qD, fun w hw => va_Nw.same (by revert w; decide +kernel) (u := U) rfl (qn w hw)⟩
theorem gq_Nw_warm {s U : State} (hW : s.WarmedH U.vm) (h : ∀ w ∈ gq_nest, va_Nw w s) : ∀ w ∈ gq_nest, va_Nw w U := by
  intro w hw
  have h1 := h w hw
  simp only [gq_nest, List.mem_cons, List.not_mem_nil, or_false] at hw
  rcases hw with rfl | rfl | rfl | rfl | rfl | rfl <;> exact va_Nw.warmM hW h1
theorem gq_preU (C : gq_ok M R E) {av : List Value} {H : Heap} {locs : List Loc} {tc : gq_T} (hP : va_P D vwCl (wr ++ wc) H) (hD : va_D (eF E) (wr ++ wc)) (hK : va_K D vwCl tys (eS E)) (is : List Nat) (ht : is.filterMap (fun i => tys[i]?) = tc) : ∀ U : State, U.heap = H → (eS E).WarmedH U.vm → va_Pc av (gq_pre D wc tc H.size) av.toArray U := by
  intro U hU hW
  have inr : ∀ {k : Nat} {x : Nat × va_E}, wc[k]? = some x → (wr ++ wc)[wr.length + k]? = some x := fun {k x} hx => by rw [List.getElem?_append_right (by omega), show wr.length + k - wr.length = k by omega]; exact hx
  refine ⟨rfl, by rw [hU], by rw [hU]; exact fun k x hx => hP _ x (inr hx), va_K.moved hW.alike (hK.sub is ht), ⟨fun i j p q hi hj hpq => ?_, fun _ _ _ => trivial⟩, gq_Nw_warm hW C.2.2.2⟩
  have := hD.1 _ _ p q (inr hi) (inr hj) hpq
  omega
theorem gq_back (C : gq_ok M R E) {a : Array Value} {H : Heap} {locs : List Loc} {ls : Array Slot} {st0 : List Value} (hP : va_P D vwCl (wr ++ wc) H) (hD : va_D (eF E) (wr ++ wc)) (hK : va_K D vwCl tys (eS E)) (hS : va_S (eF E) (eS E).heap H locs) (hl : lv_has ls (eC E).maxLocals L)
    (hr : va_Run (eP E) l (eE E) (eR E) (eS E) (eM E) (eA E) (eB E) (eMe E) (eC E) H locs k n mc ms (F0 (eM E) pc ls st0) rest (gq_Q D wc H.size (fun w1 t1 => gq_W l D E (k + mc) (n + ms) (pc + 3) L rest (wr ++ w1) (tys ++ t1)) a) (va_A wc H.size)) :
    W (eP E) l (eE E) (eR E) (eS E) (eM E) (eA E) (eB E) (eMe E) (eC E) H locs k n (eQ E) (F0 (eM E) pc ls st0) := by
  have hF : ∀ q, va_A wc H.size q → eF E q := by
    intro q hq
    rcases hq with ⟨j, e, hj⟩ | hq
    · exact hD.2 (wr.length + j) (q, e) (by rw [List.getElem?_append_right (by omega), show wr.length + j - wr.length = j by omega]; exact hj)
    · exact C.2.2.1 q (Nat.le_trans hS.1 hq)
  intro T hT X
  obtain ⟨v, st₀, t, T', L', h0, X', hL, e1, e2, ⟨⟨w1, t1, hv, hk, hP', hK', hD'⟩, hz, hkeep⟩, go⟩ := hr T hT X
  cases hv
  rw [h0] at hz hkeep
  obtain ⟨hPj, hDj⟩ := gq_join hP hD hkeep hF hP' hD'
  have hal : (eS E).vm.Alike t.vm := by rw [← e2]; exact X'.warmed.alike
  obtain ⟨t2, a1, b1⟩ := hk T'.heap (locs ++ L') ls (by rw [e1]; exact hPj) hDj (hK.app (va_K.moved hal.symm hK')) ⟨Nat.le_trans hS.1 (by rw [e1]; exact hz), fun q h1 h2 => by rw [e1, hkeep q (Nat.lt_of_lt_of_le h1 hS.1) (fun z => h2 (hF q z))]; exact hS.2.1 q h1 h2, fun q hq => by
      rcases List.mem_append.mp hq with h | h
      · exact hS.2.2 q h
      · exact hF _ (hL q h)⟩ hl T' rfl X'
  exact ⟨t2, go t2 a1, b1⟩
/-- a constructor's call, of the last object -/
theorem q_init (C : gq_ok M R E) {idx q na : Nat} {As : List Value} (hb : gp_Mb M2 na) (hlk : Cond.methodLink M.1.cls idx M2.1 ∈ gp_tbl) (hin : Cond.instanceMethod M2.1 ∈ gp_tbl) (hnm : M2.1.name = "<init>") (hret : M2.2.2.2 = none) (hfr : nf + 1 ≤ R.frames) (hlo : 60 * nf + 60 ≤ R.locals) (hc : k + mc ≤ R.cells) (hs : n + ms ≤ R.slots) (hna : As.length = na) (hst : st = As.reverse ++ .ref q :: rest) (hcat : (rest.map fun v => v.category).sum ≤ 8) (d : decode M.2.1 pc = .ok (.invokespecial idx, 3))
    (h : gq_C l D nf mc ms M2 (.ref q :: As) wc [] (fun w1 t1 => gq_W l D E (k + mc) (n + ms) (pc + 3) L rest (wr ++ w1) (tys ++ t1))) : gq_W l D E k n pc L st (wr ++ wc) tys := by
  subst hst
  obtain ⟨h1, h2, h3, h4⟩ := hb
  intro H locs ls hP hD hK hS hl
  refine gq_back C hP hD hK hS hl (va_runI (Ts := gp_tbl) (bytes := M2.2.1) (maxL := M2.2.2.1) (n := na) (As := As) (nL := (eC E).maxLocals) ⟨C.1.1, C.1.2.1, rfl, C.1.2.2.2.1, C.1.2.2.2.2⟩ (h H.size) ⟨callB_of na C.1.2.2.2.2 (gp_good h1) (by rw [← hret]; rfl) rfl rfl (C.1.2.2.2.2 _ h2) (C.1.2.2.2.2 _ hlk) h3 ⟨by rw [C.2.1]; exact hfr, ?_⟩, hnm, C.1.2.2.2.2 _ hin⟩ ⟨gq_blind, gq_preU (locs := locs) C hP hD hK [] rfl⟩ rfl hna hl.1 rfl (lv_room hcat) d ⟨by rw [C.2.1]; exact hc, by rw [C.2.1]; exact hs⟩)
  show 8 + (M2.2.2.1 + 11) + 60 * nf ≤ (eR E).locals
  rw [C.2.1]
  omega
theorem q_initN (C : gq_ok M R E) {idx q na : Nat} {As : List Value} (hb : gp_Mb M2 na) (hlk : Cond.methodLinkNest M.1.cls idx M2.1 "GuidedProbes" ∈ gq_nest) (hin : Cond.instanceMethod M2.1 ∈ gp_tbl) (hnm : M2.1.name = "<init>") (hret : M2.2.2.2 = none) (hfr : nf + 1 ≤ R.frames) (hlo : 60 * nf + 60 ≤ R.locals) (hc : k + mc ≤ R.cells) (hs : n + ms ≤ R.slots) (hna : As.length = na) (hst : st = As.reverse ++ .ref q :: rest) (hcat : (rest.map fun v => v.category).sum ≤ 8) (d : decode M.2.1 pc = .ok (.invokespecial idx, 3))
    (h : gq_C l D nf mc ms M2 (.ref q :: As) wc [] (fun w1 t1 => gq_W l D E (k + mc) (n + ms) (pc + 3) L rest (wr ++ w1) (tys ++ t1))) : gq_W l D E k n pc L st (wr ++ wc) tys := by
  subst hst
  obtain ⟨h1, h2, h3, h4⟩ := hb
  intro H locs ls hP hD hK hS hl
  refine gq_back C hP hD hK hS hl (va_runIN (Ts := gp_tbl) (bytes := M2.2.1) (maxL := M2.2.2.1) (n := na) (As := As) (nL := (eC E).maxLocals) ⟨C.1.1, C.1.2.1, rfl, C.1.2.2.2.1, C.1.2.2.2.2⟩ (h H.size) ⟨va_cnB na C.1.2.2.2.2 (gp_good h1) (by rw [← hret]; rfl) rfl rfl (C.2.2.2 _ hlk) (C.1.2.2.2.2 _ h2) h3 ⟨by rw [C.2.1]; exact hfr, ?_⟩, hnm, C.1.2.2.2.2 _ hin⟩ ⟨gq_blind, gq_preU (locs := locs) C hP hD hK [] rfl⟩ rfl hna hl.1 rfl (lv_room hcat) d ⟨by rw [C.2.1]; exact hc, by rw [C.2.1]; exact hs⟩)
  show 8 + (M2.2.2.1 + 11) + 60 * nf ≤ (eR E).locals
  rw [C.2.1]
  omega
/-- Arrays.fill, of the last object, an array -/
theorem q_stat (C : gq_ok M R E) {idx na : Nat} {As : List Value} {tc : gq_T} (is : List Nat) (htc : is.filterMap (fun i => tys[i]?) = tc) (mv : gp_Ms M.1.cls idx M2 na) (hret : M2.2.2.2 = none) (hfr : nf + 1 ≤ R.frames) (hlo : 60 * nf + 60 ≤ R.locals) (hc : k + mc ≤ R.cells) (hs : n + ms ≤ R.slots) (hna : As.length = na) (hst : st = As.reverse ++ rest) (hcat : (rest.map fun v => v.category).sum ≤ 8) (d : decode M.2.1 pc = .ok (.invokestatic idx, 3))
    (h : gq_C l D nf mc ms M2 As wc tc (fun w1 t1 => gq_W l D E (k + mc) (n + ms) (pc + 3) L rest (wr ++ w1) (tys ++ t1))) : gq_W l D E k n pc L st (wr ++ wc) tys := by
  subst hst
  obtain ⟨⟨h1, h2, h3, h4⟩, h5, h6⟩ := mv
  intro H locs ls hP hD hK hS hl
  refine gq_back C hP hD hK hS hl (va_runS (Ts := gp_tbl) (bytes := M2.2.1) (maxL := M2.2.2.1) (ret := M2.2.2.2) (n := na) (As := As) (nL := (eC E).maxLocals) ⟨C.1.1, C.1.2.1, rfl, C.1.2.2.2.1, C.1.2.2.2.2⟩ (h H.size) ⟨callB_of na C.1.2.2.2.2 (gp_good h1) rfl rfl rfl (C.1.2.2.2.2 _ h2) (C.1.2.2.2.2 _ h5) h3 ⟨by rw [C.2.1]; exact hfr, ?_⟩, C.1.2.2.2.2 _ h6⟩ ⟨gq_blind, gq_preU (locs := locs) C hP hD hK is htc⟩ rfl hna hl.1 rfl (lv_room hcat) d ⟨by rw [C.2.1]; exact hc, by rw [C.2.1]; exact hs⟩)
  show 8 + (M2.2.2.1 + 11) + 60 * nf ≤ (eR E).locals
  rw [C.2.1]
  omega
theorem q_is {ws' : va_W} {tys' : gq_T} (hw : ws = ws') (ht : tys = tys') (h : gq_W l D E k n pc L st ws' tys') : gq_W l D E k n pc L st ws tys := by subst hw; subst ht; exact h
theorem q_perm {ws' : va_W} {tys' : gq_T} (is js : List Nat) (hn : va_nd is = true) (hw : is.map (fun i => ws[i]?) = ws'.map some) (ht : js.filterMap (fun i => tys[i]?) = tys') (h : gq_W l D E k n pc L st ws' tys') : gq_W l D E k n pc L st ws tys := by
  intro H locs ls hP hD hK hS hl
  have hw2 : is.filterMap (fun i => ws[i]?) = ws' := by
    have := congrArg (List.filterMap id) hw
    simpa [List.filterMap_map] using this
  exact h H locs ls (hP.sub is hw2) (hD.sub is hn hw) (hK.sub js ht) hS hl
end Q0
