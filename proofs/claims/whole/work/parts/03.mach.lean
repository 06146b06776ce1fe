/-! THE SMALL MACHINE: the objects of a run are fixed once the constructors are done; a state is then two tables of numbers (ints, longs) by object and slot, or by array and index. -/
abbrev gp_S : Type := (Nat → Nat → Int32) × (Nat → Nat → Int64)
abbrev gp_K1 : Type := Nat ⊕ Bool
abbrev gp_H : Type := (Bool × Nat) ⊕ (Nat × List gp_K1)
/-- the objects: 0 to 33 the system's, 34 to 49 the reference's -/
def gp_shL : List gp_H := [
  .inr (9, [.inl 1, .inl 3, .inl 6, .inl 9, .inl 11, .inl 14, .inl 17, .inl 20, .inl 24, .inl 26, .inl 31, .inr false, .inr false, .inr false]),
  .inr (3, [.inl 2, .inr false]), .inl (false, 40),
  .inr (0, [.inl 4, .inl 5, .inr false, .inr false, .inr false, .inr false]), .inl (false, 12), .inl (false, 24),
  .inr (0, [.inl 7, .inl 8, .inr false, .inr false, .inr false, .inr false]), .inl (false, 12), .inl (false, 24),
  .inr (6, [.inl 10, .inr false]), .inl (false, 16),
  .inr (5, [.inl 3, .inl 9, .inl 12, .inl 13, .inr false]), .inl (false, 12), .inl (false, 12),
  .inr (2, [.inl 15, .inl 16]), .inl (false, 12), .inl (false, 12),
  .inr (2, [.inl 18, .inl 19]), .inl (false, 12), .inl (false, 12),
  .inr (1, [.inl 21, .inl 22, .inl 23, .inr false]), .inl (false, 40), .inl (false, 40), .inl (false, 40),
  .inr (4, [.inl 25, .inr false, .inr false]), .inl (false, 12),
  .inr (7, [.inl 27, .inr true, .inl 28, .inl 29, .inl 30, .inr false, .inr false]), .inl (true, 12), .inl (false, 40), .inl (false, 40), .inl (false, 40),
  .inr (8, [.inl 3, .inl 32, .inl 33, .inr false, .inr false]), .inl (false, 12), .inl (false, 12),
  .inr (10, [.inr false, .inl 35, .inr false, .inr false, .inl 36, .inl 37, .inr false, .inl 38, .inr false, .inr false, .inr false, .inr false, .inr false, .inr false, .inr false, .inr false, .inr false, .inr false, .inr false, .inl 39, .inl 40, .inl 41, .inl 42, .inl 43, .inl 44, .inl 45, .inr false, .inl 46, .inl 47, .inl 48, .inr false, .inr false, .inr false, .inr false, .inr false, .inr false, .inl 49, .inr true]),
  .inl (false, 40), .inl (false, 12), .inl (false, 24), .inl (false, 16), .inl (false, 8), .inl (false, 16), .inl (false, 12), .inl (false, 12), .inl (false, 12), .inl (false, 12), .inl (false, 12), .inl (false, 40), .inl (false, 40), .inl (false, 40), .inl (false, 12)]
def gp_sh (a : Nat) : gp_H := gp_shL.getD a (.inl (false, 0))
/-- the launch, the classes' numbers, the arrays' classes, the addresses -/
abbrev gp_G : Type := Launch × va_G × (Nat → ClassId) × (Nat → Nat)
def gp_tr (ad : Nat → Nat) (v : Value) : Value := match v with
  | .ref a => .ref (ad a)
  | v => v
theorem gp_tr_cat (ad : Nat → Nat) (v : Value) : (gp_tr ad v).category = v.category := by cases v <;> rfl
def gp_val (ad : Nat → Nat) (i : Nat → Int32) (j : Nat → Int64) (k : Nat) (f : gp_K1) : Value := match f with
  | .inl a => .ref (ad a)
  | .inr false => .int (i k)
  | .inr true => .long (j k)
def gp_cell (G : gp_G) (a : Nat) (h : gp_H) (i : Nat → Int32) (j : Nat → Int64) : va_E := match h with
  | .inl (false, n) => .inl (G.2.2.1 a, n, .inl i)
  | .inl (true, n) => .inl (G.2.2.1 a, n, .inr (.inl j))
  | .inr (ci, fs) => .inr (ci, fs.mapIdx (gp_val G.2.2.2 i j))
def gp_ws (G : gp_G) (σ : gp_S) : va_W := (List.range 50).map (fun a => (G.2.2.2 a, gp_cell G a (gp_sh a) (σ.1 a) (σ.2 a)))
def gp_ty (h : gp_H) : FieldType := match h with
  | .inl (true, _) => .long
  | _ => .int
def gp_tys (G : gp_G) : List (ClassId × FieldType) := (List.range 50).map (fun a => (G.2.2.1 a, gp_ty (gp_sh a)))
def gp_inj (G : gp_G) : Prop := ∀ a b : Nat, a < 50 → b < 50 → G.2.2.2 a = G.2.2.2 b → a = b
def gp_A (G : gp_G) : Nat → Prop := fun q => ∃ a : Nat, a < 50 ∧ q = G.2.2.2 a
def gp_ui (σ : gp_S) (a k : Nat) (v : Int32) : gp_S := (fun b => if b = a then upd (σ.1 b) k v else σ.1 b, σ.2)
def gp_uj (σ : gp_S) (a k : Nat) (v : Int64) : gp_S := (σ.1, fun b => if b = a then vp_updL (σ.2 b) k v else σ.2 b)
/-- a whole array of ints is put -/
def gp_ua (σ : gp_S) (a : Nat) (f : Nat → Int32) : gp_S := (fun b => if b = a then f else σ.1 b, σ.2)
theorem gp_ws_at {G : gp_G} {σ : gp_S} {a : Nat} (h : a < 50) : (gp_ws G σ)[a]? = some (G.2.2.2 a, gp_cell G a (gp_sh a) (σ.1 a) (σ.2 a)) := by
  unfold gp_ws
  rw [List.getElem?_map, List.getElem?_range h]
  rfl
theorem gp_tys_at {G : gp_G} {a : Nat} (h : a < 50) : (gp_tys G)[a]? = some (G.2.2.1 a, gp_ty (gp_sh a)) := by
  unfold gp_tys
  rw [List.getElem?_map, List.getElem?_range h]
  rfl
theorem gp_ws_len {G : gp_G} {σ : gp_S} : (gp_ws G σ).length = 50 := by simp [gp_ws]
theorem gp_ws_ge {G : gp_G} {σ : gp_S} {a : Nat} (h : ¬ a < 50) : (gp_ws G σ)[a]? = none := by
  apply List.getElem?_eq_none
  rw [gp_ws_len]
  omega
theorem gp_ws_set {G : gp_G} {σ σ' : gp_S} {a : Nat} {e : va_E} (h : a < 50) (he : e = gp_cell G a (gp_sh a) (σ'.1 a) (σ'.2 a)) (h1 : ∀ b, b ≠ a → σ'.1 b = σ.1 b) (h2 : ∀ b, b ≠ a → σ'.2 b = σ.2 b) : (gp_ws G σ).set a (G.2.2.2 a, e) = gp_ws G σ' := by
  apply List.ext_getElem?
  intro b
  by_cases hb : b < 50
  · by_cases hab : b = a
    · subst hab
      rw [List.getElem?_set_self (by rw [gp_ws_len]; exact hb), gp_ws_at hb, he]
    · rw [List.getElem?_set_ne (Ne.symm hab), gp_ws_at hb, gp_ws_at hb, h1 b hab, h2 b hab]
  · rw [gp_ws_ge hb, List.getElem?_set]
    by_cases hab : a = b
    · omega
    · rw [if_neg hab, gp_ws_ge hb]
theorem gp_ws_D {G : gp_G} {σ : gp_S} {A : Nat → Prop} (hi : gp_inj G) (hA : ∀ a, a < 50 → A (G.2.2.2 a)) : va_D A (gp_ws G σ) := by
  refine ⟨fun i j x y hi' hj' hxy => ?_, fun k q hk => ?_⟩
  · have h1 : i < 50 := by have := (List.getElem?_eq_some_iff.mp hi').1; rwa [gp_ws_len] at this
    have h2 : j < 50 := by have := (List.getElem?_eq_some_iff.mp hj').1; rwa [gp_ws_len] at this
    rw [gp_ws_at h1] at hi'
    rw [gp_ws_at h2] at hj'
    cases hi'
    cases hj'
    exact hi i j h1 h2 hxy
  · have h1 : k < 50 := by have := (List.getElem?_eq_some_iff.mp hk).1; rwa [gp_ws_len] at this
    rw [gp_ws_at h1] at hk
    cases hk
    exact hA k h1
/-- what a frame stands in: program, env, room, state, method, arguments, frames below, method, code, cells, slots, the end, what may be written -/
abbrev gp_E : Type := Program × Env × Room × State × MethodId × Array Value × List Frame × Method × Code × Nat × Nat × (State → Prop) × (Nat → Prop)
abbrev eP (E : gp_E) : Program := E.1
abbrev eE (E : gp_E) : Env := E.2.1
abbrev eR (E : gp_E) : Room := E.2.2.1
abbrev eS (E : gp_E) : State := E.2.2.2.1
abbrev eM (E : gp_E) : MethodId := E.2.2.2.2.1
abbrev eA (E : gp_E) : Array Value := E.2.2.2.2.2.1
abbrev eB (E : gp_E) : List Frame := E.2.2.2.2.2.2.1
abbrev eMe (E : gp_E) : Method := E.2.2.2.2.2.2.2.1
abbrev eC (E : gp_E) : Code := E.2.2.2.2.2.2.2.2.1
abbrev eK (E : gp_E) : Nat := E.2.2.2.2.2.2.2.2.2.1
abbrev eL (E : gp_E) : Nat := E.2.2.2.2.2.2.2.2.2.2.1
abbrev eQ (E : gp_E) : State → Prop := E.2.2.2.2.2.2.2.2.2.2.2.1
abbrev eF (E : gp_E) : Nat → Prop := E.2.2.2.2.2.2.2.2.2.2.2.2
def gp_trL (ad : Nat → Nat) (L : List (Nat × Value)) : List (Nat × Value) := L.map (fun q => (q.1, gp_tr ad q.2))
def gp_W (G : gp_G) (E : gp_E) (pc : Nat) (L : List (Nat × Value)) (st : List Value) (σ : gp_S) : Prop :=
  ∀ (H : Heap) (locs : List Loc) (ls : Array Slot), va_P G.2.1 vwCl (gp_ws G σ) H → va_S (eF E) (eS E).heap H locs → lv_has ls (eC E).maxLocals (gp_trL G.2.2.2 L) →
    W (eP E) G.1 (eE E) (eR E) (eS E) (eM E) (eA E) (eB E) (eMe E) (eC E) H locs (eK E) (eL E) (eQ E) (F0 (eM E) pc ls (st.map (gp_tr G.2.2.2)))
def gp_nest : List Cond := [.methodLinkNest "GuidedProbes$Stimulus" 27 yX9_figure "GuidedProbes", .methodLinkNest "GuidedProbes$Board" 65 yX9_figure "GuidedProbes"]
def gp_ok (G : gp_G) (N : Nat) (M : gp_M) (E : gp_E) : Prop :=
  ((eP E).tables.exec = Jvm.exec ∧ (eC E).code = M.2.1 ∧ (eC E).maxLocals = M.2.2.1 ∧ (eS E).vm.findClass M.1.cls = some (eM E).cls ∧ (∀ w ∈ gp_tbl, w.before (eA E) (eS E) = true)) ∧
  (∀ w ∈ gp_nest, va_Nw w (eS E)) ∧ va_K G.2.1 vwCl (gp_tys G) (eS E) ∧ (∀ a, a < 50 → eF E (G.2.2.2 a)) ∧ gp_inj G ∧ N ≤ (eR E).frames ∧ 60 * N ≤ (eR E).locals ∧ eK E ≤ (eR E).cells ∧ eL E ≤ (eR E).slots
section R0
variable {G : gp_G} {N : Nat} {M : gp_M} {E : gp_E} {pc : Nat} {L : List (Nat × Value)} {st : List Value} {σ : gp_S}
theorem gp_ok.hx (C : gp_ok G N M E) : (eP E).tables.exec = Jvm.exec := C.1.1
theorem gp_ok.hb (C : gp_ok G N M E) : (eC E).code = M.2.1 := C.1.2.1
theorem gp_ok.hml (C : gp_ok G N M E) : (eC E).maxLocals = M.2.2.1 := C.1.2.2.1
theorem gp_ok.hown (C : gp_ok G N M E) : (eS E).vm.findClass M.1.cls = some (eM E).cls := C.1.2.2.2.1
theorem gp_ok.hts (C : gp_ok G N M E) : ∀ w ∈ gp_tbl, w.before (eA E) (eS E) = true := C.1.2.2.2.2
theorem gp_ok.hnest (C : gp_ok G N M E) : ∀ w ∈ gp_nest, va_Nw w (eS E) := C.2.1
theorem gp_ok.hK (C : gp_ok G N M E) : va_K G.2.1 vwCl (gp_tys G) (eS E) := C.2.2.1
theorem gp_ok.hF (C : gp_ok G N M E) : ∀ a, a < 50 → eF E (G.2.2.2 a) := C.2.2.2.1
theorem gp_ok.hinj (C : gp_ok G N M E) : gp_inj G := C.2.2.2.2.1
theorem gp_ok.hfr (C : gp_ok G N M E) : N ≤ (eR E).frames := C.2.2.2.2.2.1
theorem gp_ok.hlo (C : gp_ok G N M E) : 60 * N ≤ (eR E).locals := C.2.2.2.2.2.2.1
theorem gp_ok.hce (C : gp_ok G N M E) : eK E ≤ (eR E).cells := C.2.2.2.2.2.2.2.1
theorem gp_ok.hsl (C : gp_ok G N M E) : eL E ≤ (eR E).slots := C.2.2.2.2.2.2.2.2
theorem gp_ok.hD (C : gp_ok G N M E) : va_D (eF E) (gp_ws G σ) := gp_ws_D C.hinj C.hF
theorem gp_loc {ad : Nat → Nat} {ls : Array Slot} {n : Nat} (hl : lv_has ls n (gp_trL ad L)) (k : Nat) {i : Nat} {v : Value} (hk : L[k]? = some (i, v)) : ls[i]? = some (.val (gp_tr ad v)) := by
  refine lv_at hl k (i := i) (v := gp_tr ad v) ?_
  unfold gp_trL
  rw [List.getElem?_map, hk]
  rfl
/-- locals -/
theorem r_iload_n (C : gp_ok G N M E) {n : Fin 4} {i : Nat} {x : Int32} (d : decode M.2.1 pc = .ok (.iload_n n, 1)) (k : Nat) (hi : (n : Nat) = i) (hk : L[k]? = some (i, .int x)) (h : gp_W G E (pc + 1) L (.int x :: st) σ) : gp_W G E pc L st σ :=
  fun H locs ls hP hS hl => lv_iload_n C.hx C.hb d hi (gp_loc hl k hk) (h H locs ls hP hS hl)
theorem r_iload (C : gp_ok G N M E) {i : Nat} {x : Int32} (d : decode M.2.1 pc = .ok (.iload i, 2)) (k : Nat) (hk : L[k]? = some (i, .int x)) (h : gp_W G E (pc + 2) L (.int x :: st) σ) : gp_W G E pc L st σ :=
  fun H locs ls hP hS hl => lv_iload C.hx C.hb d (gp_loc hl k hk) (h H locs ls hP hS hl)
theorem r_lload_n (C : gp_ok G N M E) {n : Fin 4} {i : Nat} {x : Int64} (d : decode M.2.1 pc = .ok (.lload_n n, 1)) (k : Nat) (hi : (n : Nat) = i) (hk : L[k]? = some (i, .long x)) (h : gp_W G E (pc + 1) L (.long x :: st) σ) : gp_W G E pc L st σ :=
  fun H locs ls hP hS hl => lv_lload_n C.hx C.hb d hi (gp_loc hl k hk) (h H locs ls hP hS hl)
theorem r_aload_n (C : gp_ok G N M E) {n : Fin 4} {i : Nat} {x : Nat} (d : decode M.2.1 pc = .ok (.aload_n n, 1)) (k : Nat) (hi : (n : Nat) = i) (hk : L[k]? = some (i, .ref x)) (h : gp_W G E (pc + 1) L (.ref x :: st) σ) : gp_W G E pc L st σ :=
  fun H locs ls hP hS hl => lv_aload_n C.hx C.hb d hi (gp_loc hl k hk) (h H locs ls hP hS hl)
def gp_put1 (L : List (Nat × Value)) (i : Nat) (v : Value) : List (Nat × Value) := (i, v) :: L.filter (fun q => !(q.1 == i) && !(q.1 + 1 == i && q.2.category == 2))
def gp_put2 (L : List (Nat × Value)) (i : Nat) (v : Value) : List (Nat × Value) := (i, v) :: L.filter (fun q => !(q.1 == i) && (!(q.1 == i + 1) && !(q.1 + 1 == i && q.2.category == 2)))
theorem gp_tr_put1 (ad : Nat → Nat) (i : Nat) (v : Value) : gp_put1 (gp_trL ad L) i (gp_tr ad v) = gp_trL ad (gp_put1 L i v) := by
  unfold gp_put1 gp_trL
  rw [List.map_cons, List.filter_map]
  congr 1
  congr 1
  apply List.filter_congr
  intro q _
  simp [Function.comp, gp_tr_cat]
theorem gp_tr_put2 (ad : Nat → Nat) (i : Nat) (v : Value) : gp_put2 (gp_trL ad L) i (gp_tr ad v) = gp_trL ad (gp_put2 L i v) := by
  unfold gp_put2 gp_trL
  rw [List.map_cons, List.filter_map]
  congr 1
  congr 1
  apply List.filter_congr
  intro q _
  simp [Function.comp, gp_tr_cat]
theorem r_istore_n (C : gp_ok G N M E) {n : Fin 4} {i : Nat} {x : Int32} {L' : List (Nat × Value)} (d : decode M.2.1 pc = .ok (.istore_n n, 1)) (hi : (n : Nat) = i) (hn : i < M.2.2.1) (hL : gp_put1 L i (.int x) = L') (h : gp_W G E (pc + 1) L' st σ) : gp_W G E pc L (.int x :: st) σ := by
  subst hL
  intro H locs ls hP hS hl
  exact lv_istore_n C.hx C.hb d hi hl (by rw [C.hml]; exact hn) (gp_tr_put1 _ i (.int x)) (fun ls' hl' => h H locs ls' hP hS hl')
theorem r_istore (C : gp_ok G N M E) {i : Nat} {x : Int32} {L' : List (Nat × Value)} (d : decode M.2.1 pc = .ok (.istore i, 2)) (hn : i < M.2.2.1) (hL : gp_put1 L i (.int x) = L') (h : gp_W G E (pc + 2) L' st σ) : gp_W G E pc L (.int x :: st) σ := by
  subst hL
  intro H locs ls hP hS hl
  exact lv_istore C.hx C.hb d hl (by rw [C.hml]; exact hn) (gp_tr_put1 _ i (.int x)) (fun ls' hl' => h H locs ls' hP hS hl')
theorem r_lstore_n (C : gp_ok G N M E) {n : Fin 4} {i : Nat} {x : Int64} {L' : List (Nat × Value)} (d : decode M.2.1 pc = .ok (.lstore_n n, 1)) (hi : (n : Nat) = i) (hn : i + 1 < M.2.2.1) (hL : gp_put2 L i (.long x) = L') (h : gp_W G E (pc + 1) L' st σ) : gp_W G E pc L (.long x :: st) σ := by
  subst hL
  intro H locs ls hP hS hl
  exact lv_lstore_n C.hx C.hb d hi hl (by rw [C.hml]; exact hn) (gp_tr_put2 _ i (.long x)) (fun ls' hl' => h H locs ls' hP hS hl')
theorem r_iinc (C : gp_ok G N M E) {i : Nat} {n : Int} {x v : Int32} {L' : List (Nat × Value)} (d : decode M.2.1 pc = .ok (.iinc i n, 3)) (k : Nat) (hk : L[k]? = some (i, .int x)) (hv : x + Int32.ofInt n = v) (hn : i < M.2.2.1) (hL : gp_put1 L i (.int v) = L') (h : gp_W G E (pc + 3) L' st σ) : gp_W G E pc L st σ := by
  subst hL
  intro H locs ls hP hS hl
  refine lv_iinc C.hx C.hb d hl (k := k) (x := x) ?_ hv (by rw [C.hml]; exact hn) (gp_tr_put1 _ i (.int v)) (fun ls' hl' => h H locs ls' hP hS hl')
  unfold gp_trL
  rw [List.getElem?_map, hk]
  rfl
/-- fewer locals are known -/
theorem r_pick (ks : List Nat) {L' : List (Nat × Value)} (hL : lv_pick L ks = L') (h : gp_W G E pc L' st σ) : gp_W G E pc L st σ := by
  subst hL
  intro H locs ls hP hS hl
  refine h H locs ls hP hS (lv_sub hl ks ?_)
  unfold lv_pick gp_trL
  rw [List.map_filterMap]
  congr 1
  funext k
  rw [List.getElem?_map]
/-- constants, stack, arithmetic -/
theorem r_iconst (C : gp_ok G N M E) {n : Int} {v : Int32} (d : decode M.2.1 pc = .ok (.iconst n, 1)) (hv : Int32.ofInt n = v) (h : gp_W G E (pc + 1) L (.int v :: st) σ) : gp_W G E pc L st σ :=
  fun H locs ls hP hS hl => lv_iconst C.hx C.hb d hv (h H locs ls hP hS hl)
theorem r_bipush (C : gp_ok G N M E) {n : Int} {v : Int32} (d : decode M.2.1 pc = .ok (.bipush n, 2)) (hv : (Int8.ofInt n).toInt32 = v) (h : gp_W G E (pc + 2) L (.int v :: st) σ) : gp_W G E pc L st σ :=
  fun H locs ls hP hS hl => lv_bipush C.hx C.hb d hv (h H locs ls hP hS hl)
theorem r_sipush (C : gp_ok G N M E) {n : Int} {v : Int32} (d : decode M.2.1 pc = .ok (.sipush n, 3)) (hv : (Int16.ofInt n).toInt32 = v) (h : gp_W G E (pc + 3) L (.int v :: st) σ) : gp_W G E pc L st σ :=
  fun H locs ls hP hS hl => lv_sipush C.hx C.hb d hv (h H locs ls hP hS hl)
theorem r_lconst (C : gp_ok G N M E) {n : Fin 2} {v : Int64} (d : decode M.2.1 pc = .ok (.lconst n, 1)) (hv : Int64.ofNat (n : Nat) = v) (h : gp_W G E (pc + 1) L (.long v :: st) σ) : gp_W G E pc L st σ :=
  fun H locs ls hP hS hl => lv_lconst C.hx C.hb d hv (h H locs ls hP hS hl)
theorem r_ldc2 (C : gp_ok G N M E) {i : Nat} {v : Int64} (d : decode M.2.1 pc = .ok (.ldc2_w i, 3)) (hw : Cond.constantLong M.1.cls i v ∈ gp_tbl) (h : gp_W G E (pc + 3) L (.long v :: st) σ) : gp_W G E pc L st σ :=
  fun H locs ls hP hS hl => lv_ldc2 C.hx C.hb C.hown (C.hts _ hw) d (h H locs ls hP hS hl)
theorem r_dup (C : gp_ok G N M E) {v : Value} (d : decode M.2.1 pc = .ok (.dup, 1)) (hc : v.category = 1) (h : gp_W G E (pc + 1) L (v :: v :: st) σ) : gp_W G E pc L (v :: st) σ :=
  fun H locs ls hP hS hl => lv_dup C.hx C.hb d (by rw [gp_tr_cat]; exact hc) (h H locs ls hP hS hl)
theorem r_dup2 (C : gp_ok G N M E) {v w : Value} (d : decode M.2.1 pc = .ok (.dup2, 1)) (hc : v.category = 1) (hc2 : w.category = 1) (h : gp_W G E (pc + 1) L (v :: w :: v :: w :: st) σ) : gp_W G E pc L (v :: w :: st) σ :=
  fun H locs ls hP hS hl => lv_dup2_11 C.hx C.hb d (by rw [gp_tr_cat]; exact hc) (by rw [gp_tr_cat]; exact hc2) (h H locs ls hP hS hl)
theorem r_iadd (C : gp_ok G N M E) {x y : Int32} (d : decode M.2.1 pc = .ok (.iadd, 1)) (h : gp_W G E (pc + 1) L (.int (x + y) :: st) σ) : gp_W G E pc L (.int y :: .int x :: st) σ :=
  fun H locs ls hP hS hl => lv_iadd C.hx C.hb d (h H locs ls hP hS hl)
theorem r_isub (C : gp_ok G N M E) {x y : Int32} (d : decode M.2.1 pc = .ok (.isub, 1)) (h : gp_W G E (pc + 1) L (.int (x - y) :: st) σ) : gp_W G E pc L (.int y :: .int x :: st) σ :=
  fun H locs ls hP hS hl => lv_isub C.hx C.hb d (h H locs ls hP hS hl)
theorem r_imul (C : gp_ok G N M E) {x y : Int32} (d : decode M.2.1 pc = .ok (.imul, 1)) (h : gp_W G E (pc + 1) L (.int (x * y) :: st) σ) : gp_W G E pc L (.int y :: .int x :: st) σ :=
  fun H locs ls hP hS hl => lv_imul C.hx C.hb d (h H locs ls hP hS hl)
theorem r_ior (C : gp_ok G N M E) {x y : Int32} (d : decode M.2.1 pc = .ok (.ior, 1)) (h : gp_W G E (pc + 1) L (.int (x ||| y) :: st) σ) : gp_W G E pc L (.int y :: .int x :: st) σ :=
  fun H locs ls hP hS hl => lv_ior C.hx C.hb d (h H locs ls hP hS hl)
theorem r_iand (C : gp_ok G N M E) {x y : Int32} (d : decode M.2.1 pc = .ok (.iand, 1)) (h : gp_W G E (pc + 1) L (.int (x &&& y) :: st) σ) : gp_W G E pc L (.int y :: .int x :: st) σ :=
  fun H locs ls hP hS hl => lv_iand C.hx C.hb d (h H locs ls hP hS hl)
theorem r_ixor (C : gp_ok G N M E) {x y : Int32} (d : decode M.2.1 pc = .ok (.ixor, 1)) (h : gp_W G E (pc + 1) L (.int (x ^^^ y) :: st) σ) : gp_W G E pc L (.int y :: .int x :: st) σ :=
  fun H locs ls hP hS hl => lv_ixor C.hx C.hb d (h H locs ls hP hS hl)
theorem r_ishl (C : gp_ok G N M E) {x y : Int32} (d : decode M.2.1 pc = .ok (.ishl, 1)) (h : gp_W G E (pc + 1) L (.int (x <<< (y &&& 31)) :: st) σ) : gp_W G E pc L (.int y :: .int x :: st) σ :=
  fun H locs ls hP hS hl => lv_ishl C.hx C.hb d (h H locs ls hP hS hl)
theorem r_ishr (C : gp_ok G N M E) {x y : Int32} (d : decode M.2.1 pc = .ok (.ishr, 1)) (h : gp_W G E (pc + 1) L (.int (x >>> (y &&& 31)) :: st) σ) : gp_W G E pc L (.int y :: .int x :: st) σ :=
  fun H locs ls hP hS hl => lv_ishr C.hx C.hb d (h H locs ls hP hS hl)
theorem r_idiv (C : gp_ok G N M E) {x y : Int32} (d : decode M.2.1 pc = .ok (.idiv, 1)) (hn : ¬ y = 0) (h : gp_W G E (pc + 1) L (.int (x / y) :: st) σ) : gp_W G E pc L (.int y :: .int x :: st) σ :=
  fun H locs ls hP hS hl => lv_idiv C.hx C.hb d hn (h H locs ls hP hS hl)
theorem r_irem (C : gp_ok G N M E) {x y : Int32} (d : decode M.2.1 pc = .ok (.irem, 1)) (hn : ¬ y = 0) (h : gp_W G E (pc + 1) L (.int (x - x / y * y) :: st) σ) : gp_W G E pc L (.int y :: .int x :: st) σ :=
  fun H locs ls hP hS hl => lv_irem C.hx C.hb d hn (h H locs ls hP hS hl)
theorem r_i2l (C : gp_ok G N M E) {x : Int32} (d : decode M.2.1 pc = .ok (.i2l, 1)) (h : gp_W G E (pc + 1) L (.long x.toInt64 :: st) σ) : gp_W G E pc L (.int x :: st) σ :=
  fun H locs ls hP hS hl => lv_i2l C.hx C.hb d rfl (h H locs ls hP hS hl)
theorem r_l2i (C : gp_ok G N M E) {x : Int64} (d : decode M.2.1 pc = .ok (.l2i, 1)) (h : gp_W G E (pc + 1) L (.int x.toInt32 :: st) σ) : gp_W G E pc L (.long x :: st) σ :=
  fun H locs ls hP hS hl => lv_l2i C.hx C.hb d rfl (h H locs ls hP hS hl)
theorem r_ladd (C : gp_ok G N M E) {x y : Int64} (d : decode M.2.1 pc = .ok (.ladd, 1)) (h : gp_W G E (pc + 1) L (.long (x + y) :: st) σ) : gp_W G E pc L (.long y :: .long x :: st) σ :=
  fun H locs ls hP hS hl => lv_ladd C.hx C.hb d (h H locs ls hP hS hl)
theorem r_lsub (C : gp_ok G N M E) {x y : Int64} (d : decode M.2.1 pc = .ok (.lsub, 1)) (h : gp_W G E (pc + 1) L (.long (x - y) :: st) σ) : gp_W G E pc L (.long y :: .long x :: st) σ :=
  fun H locs ls hP hS hl => lv_lsub C.hx C.hb d (h H locs ls hP hS hl)
theorem r_lmul (C : gp_ok G N M E) {x y : Int64} (d : decode M.2.1 pc = .ok (.lmul, 1)) (h : gp_W G E (pc + 1) L (.long (x * y) :: st) σ) : gp_W G E pc L (.long y :: .long x :: st) σ :=
  fun H locs ls hP hS hl => lv_lmul C.hx C.hb d (h H locs ls hP hS hl)
theorem r_land (C : gp_ok G N M E) {x y : Int64} (d : decode M.2.1 pc = .ok (.land, 1)) (h : gp_W G E (pc + 1) L (.long (x &&& y) :: st) σ) : gp_W G E pc L (.long y :: .long x :: st) σ :=
  fun H locs ls hP hS hl => lv_land C.hx C.hb d (h H locs ls hP hS hl)
theorem r_lor (C : gp_ok G N M E) {x y : Int64} (d : decode M.2.1 pc = .ok (.lor, 1)) (h : gp_W G E (pc + 1) L (.long (x ||| y) :: st) σ) : gp_W G E pc L (.long y :: .long x :: st) σ :=
  fun H locs ls hP hS hl => lv_lor C.hx C.hb d (h H locs ls hP hS hl)
theorem r_lxor (C : gp_ok G N M E) {x y : Int64} (d : decode M.2.1 pc = .ok (.lxor, 1)) (h : gp_W G E (pc + 1) L (.long (x ^^^ y) :: st) σ) : gp_W G E pc L (.long y :: .long x :: st) σ :=
  fun H locs ls hP hS hl => lv_lxor C.hx C.hb d (h H locs ls hP hS hl)
theorem r_lshl (C : gp_ok G N M E) {x : Int64} {y : Int32} (d : decode M.2.1 pc = .ok (.lshl, 1)) (h : gp_W G E (pc + 1) L (.long (x <<< (y.toInt64 &&& 63)) :: st) σ) : gp_W G E pc L (.int y :: .long x :: st) σ :=
  fun H locs ls hP hS hl => lv_lshl C.hx C.hb d rfl (h H locs ls hP hS hl)
theorem r_lshr (C : gp_ok G N M E) {x : Int64} {y : Int32} (d : decode M.2.1 pc = .ok (.lshr, 1)) (h : gp_W G E (pc + 1) L (.long (x >>> (y.toInt64 &&& 63)) :: st) σ) : gp_W G E pc L (.int y :: .long x :: st) σ :=
  fun H locs ls hP hS hl => lv_lshr C.hx C.hb d rfl (h H locs ls hP hS hl)
theorem r_lushr (C : gp_ok G N M E) {x : Int64} {y : Int32} (d : decode M.2.1 pc = .ok (.lushr, 1)) (h : gp_W G E (pc + 1) L (.long (x.toUInt64 >>> (y.toInt64.toUInt64 &&& Int64.toUInt64 63)).toInt64 :: st) σ) : gp_W G E pc L (.int y :: .long x :: st) σ :=
  fun H locs ls hP hS hl => lv_lushr C.hx C.hb d rfl (h H locs ls hP hS hl)
theorem r_lcmp (C : gp_ok G N M E) {x y : Int64} (d : decode M.2.1 pc = .ok (.lcmp, 1)) (h : gp_W G E (pc + 1) L (.int (lg_cmp x y) :: st) σ) : gp_W G E pc L (.long y :: .long x :: st) σ :=
  fun H locs ls hP hS hl => W.lcmp C.hx C.hb d (h H locs ls hP hS hl)
/-- branches -/
theorem r_goto (C : gp_ok G N M E) {off : Int} (t : Nat) (d : decode M.2.1 pc = .ok (.goto off, 3)) (ht : (pc : Int) + off = (t : Int)) (h : gp_W G E t L st σ) : gp_W G E pc L st σ :=
  fun H locs ls hP hS hl => lv_goto C.hx C.hb d ht (h H locs ls hP hS hl)
theorem r_icmp_eq (C : gp_ok G N M E) {x y : Int32} {off : Int} (t : Nat) (d : decode M.2.1 pc = .ok (.if_icmp .eq off, 3)) (ht : (pc : Int) + off = (t : Int)) (h1 : x = y → gp_W G E t L st σ) (h2 : ¬ x = y → gp_W G E (pc + 3) L st σ) : gp_W G E pc L (.int y :: .int x :: st) σ :=
  fun H locs ls hP hS hl => lv_icmp_eq C.hx C.hb d ht (fun q => h1 q H locs ls hP hS hl) (fun q => h2 q H locs ls hP hS hl)
theorem r_icmp_ne (C : gp_ok G N M E) {x y : Int32} {off : Int} (t : Nat) (d : decode M.2.1 pc = .ok (.if_icmp .ne off, 3)) (ht : (pc : Int) + off = (t : Int)) (h1 : ¬ x = y → gp_W G E t L st σ) (h2 : x = y → gp_W G E (pc + 3) L st σ) : gp_W G E pc L (.int y :: .int x :: st) σ :=
  fun H locs ls hP hS hl => lv_icmp_ne C.hx C.hb d ht (fun q => h1 q H locs ls hP hS hl) (fun q => h2 q H locs ls hP hS hl)
theorem r_icmp_lt (C : gp_ok G N M E) {x y : Int32} {off : Int} (t : Nat) (d : decode M.2.1 pc = .ok (.if_icmp .lt off, 3)) (ht : (pc : Int) + off = (t : Int)) (h1 : x < y → gp_W G E t L st σ) (h2 : ¬ x < y → gp_W G E (pc + 3) L st σ) : gp_W G E pc L (.int y :: .int x :: st) σ :=
  fun H locs ls hP hS hl => lv_icmp_lt C.hx C.hb d ht (fun q => h1 q H locs ls hP hS hl) (fun q => h2 q H locs ls hP hS hl)
theorem r_icmp_ge (C : gp_ok G N M E) {x y : Int32} {off : Int} (t : Nat) (d : decode M.2.1 pc = .ok (.if_icmp .ge off, 3)) (ht : (pc : Int) + off = (t : Int)) (h1 : y ≤ x → gp_W G E t L st σ) (h2 : ¬ y ≤ x → gp_W G E (pc + 3) L st σ) : gp_W G E pc L (.int y :: .int x :: st) σ :=
  fun H locs ls hP hS hl => lv_icmp_ge C.hx C.hb d ht (fun q => h1 q H locs ls hP hS hl) (fun q => h2 q H locs ls hP hS hl)
theorem r_icmp_gt (C : gp_ok G N M E) {x y : Int32} {off : Int} (t : Nat) (d : decode M.2.1 pc = .ok (.if_icmp .gt off, 3)) (ht : (pc : Int) + off = (t : Int)) (h1 : y < x → gp_W G E t L st σ) (h2 : ¬ y < x → gp_W G E (pc + 3) L st σ) : gp_W G E pc L (.int y :: .int x :: st) σ :=
  fun H locs ls hP hS hl => lv_icmp_gt C.hx C.hb d ht (fun q => h1 q H locs ls hP hS hl) (fun q => h2 q H locs ls hP hS hl)
theorem r_icmp_le (C : gp_ok G N M E) {x y : Int32} {off : Int} (t : Nat) (d : decode M.2.1 pc = .ok (.if_icmp .le off, 3)) (ht : (pc : Int) + off = (t : Int)) (h1 : x ≤ y → gp_W G E t L st σ) (h2 : ¬ x ≤ y → gp_W G E (pc + 3) L st σ) : gp_W G E pc L (.int y :: .int x :: st) σ :=
  fun H locs ls hP hS hl => lv_icmp_le C.hx C.hb d ht (fun q => h1 q H locs ls hP hS hl) (fun q => h2 q H locs ls hP hS hl)
theorem r_if_eq (C : gp_ok G N M E) {x : Int32} {off : Int} (t : Nat) (d : decode M.2.1 pc = .ok (.ifCond .eq off, 3)) (ht : (pc : Int) + off = (t : Int)) (h1 : x = 0 → gp_W G E t L st σ) (h2 : ¬ x = 0 → gp_W G E (pc + 3) L st σ) : gp_W G E pc L (.int x :: st) σ :=
  fun H locs ls hP hS hl => lv_if_eq C.hx C.hb d ht (fun q => h1 q H locs ls hP hS hl) (fun q => h2 q H locs ls hP hS hl)
theorem r_if_ne (C : gp_ok G N M E) {x : Int32} {off : Int} (t : Nat) (d : decode M.2.1 pc = .ok (.ifCond .ne off, 3)) (ht : (pc : Int) + off = (t : Int)) (h1 : ¬ x = 0 → gp_W G E t L st σ) (h2 : x = 0 → gp_W G E (pc + 3) L st σ) : gp_W G E pc L (.int x :: st) σ :=
  fun H locs ls hP hS hl => lv_if_ne C.hx C.hb d ht (fun q => h1 q H locs ls hP hS hl) (fun q => h2 q H locs ls hP hS hl)
theorem r_if_lt (C : gp_ok G N M E) {x : Int32} {off : Int} (t : Nat) (d : decode M.2.1 pc = .ok (.ifCond .lt off, 3)) (ht : (pc : Int) + off = (t : Int)) (h1 : x < 0 → gp_W G E t L st σ) (h2 : ¬ x < 0 → gp_W G E (pc + 3) L st σ) : gp_W G E pc L (.int x :: st) σ :=
  fun H locs ls hP hS hl => lv_if_lt C.hx C.hb d ht (fun q => h1 q H locs ls hP hS hl) (fun q => h2 q H locs ls hP hS hl)
theorem r_if_ge (C : gp_ok G N M E) {x : Int32} {off : Int} (t : Nat) (d : decode M.2.1 pc = .ok (.ifCond .ge off, 3)) (ht : (pc : Int) + off = (t : Int)) (h1 : 0 ≤ x → gp_W G E t L st σ) (h2 : ¬ 0 ≤ x → gp_W G E (pc + 3) L st σ) : gp_W G E pc L (.int x :: st) σ :=
  fun H locs ls hP hS hl => lv_if_ge C.hx C.hb d ht (fun q => h1 q H locs ls hP hS hl) (fun q => h2 q H locs ls hP hS hl)
theorem r_if_le (C : gp_ok G N M E) {x : Int32} {off : Int} (t : Nat) (d : decode M.2.1 pc = .ok (.ifCond .le off, 3)) (ht : (pc : Int) + off = (t : Int)) (h1 : x ≤ 0 → gp_W G E t L st σ) (h2 : ¬ x ≤ 0 → gp_W G E (pc + 3) L st σ) : gp_W G E pc L (.int x :: st) σ :=
  fun H locs ls hP hS hl => lv_if_le C.hx C.hb d ht (fun q => h1 q H locs ls hP hS hl) (fun q => h2 q H locs ls hP hS hl)
theorem r_look (C : gp_ok G N M E) {dflt : Int} {ps : Array (Int × Int)} {len : Nat} {x : Int32} {off : Int} (t : Nat) (d : decode M.2.1 pc = .ok (.lookupswitch dflt ps, len)) (hp : (ps.toList.zip (ps.toList.drop 1)).all (fun (a, next) => a.1 < next.1) = true) (ho : Op.lookupswitch.offset ps.toList dflt x.toInt = off) (ht : (pc : Int) + off = (t : Int)) (h : gp_W G E t L st σ) : gp_W G E pc L (.int x :: st) σ :=
  fun H locs ls hP hS hl => lv_lookup C.hx C.hb d hp ho ht (h H locs ls hP hS hl)
theorem r_tabO (C : gp_ok G N M E) {dflt lo hi : Int} {offs : Array Int} {len : Nat} {x : Int32} (t : Nat) (d : decode M.2.1 pc = .ok (.tableswitch dflt lo hi offs, len)) (ho : x.toInt < lo ∨ hi < x.toInt) (ht : (pc : Int) + dflt = (t : Int)) (h : gp_W G E t L st σ) : gp_W G E pc L (.int x :: st) σ :=
  fun H locs ls hP hS hl => lv_tableOut C.hx C.hb d ho ht (h H locs ls hP hS hl)
theorem r_tabI (C : gp_ok G N M E) {dflt lo hi : Int} {offs : Array Int} {len : Nat} {x : Int32} {off : Int} (t : Nat) (d : decode M.2.1 pc = .ok (.tableswitch dflt lo hi offs, len)) (h1 : ¬ x.toInt < lo) (h2 : ¬ hi < x.toInt) (ho : offs[(x.toInt - lo).toNat]? = some off) (ht : (pc : Int) + off = (t : Int)) (h : gp_W G E t L st σ) : gp_W G E pc L (.int x :: st) σ :=
  fun H locs ls hP hS hl => lv_tableIn C.hx C.hb d h1 h2 ho ht (h H locs ls hP hS hl)
end R0
