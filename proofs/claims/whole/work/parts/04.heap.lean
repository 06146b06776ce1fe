/-! fields, arrays, calls, ends -/
/-- a field link: the class's number and the slot -/
def gp_Fl (own : String) (idx ci k : Nat) : Prop := ∃ (C : String) (T : u_T) (n : Nat) (ty : Nat → FieldType), vwCl[ci]? = some (C, T, n) ∧ k < n ∧ (∀ w ∈ u_ws C T n, w ∈ gp_tbl) ∧ (∀ k, k < n → parseFieldDescriptor (T k).2.2.1 = some (ty k)) ∧ (∀ a, a < n → ∀ b, b < n → a ≠ b → (T a).2.1 ≠ (T b).2.1) ∧ Cond.fieldLink own idx (T k).1 (T k).2.1 (T k).2.2.1 ∈ gp_tbl
/-- of a field that may be put, with its type -/
def gp_Fp (own : String) (idx ci k : Nat) (t : FieldType) : Prop := ∃ (C : String) (T : u_T) (n : Nat) (ty : Nat → FieldType), (vwCl[ci]? = some (C, T, n) ∧ k < n ∧ (∀ w ∈ u_ws C T n, w ∈ gp_tbl) ∧ (∀ k, k < n → parseFieldDescriptor (T k).2.2.1 = some (ty k)) ∧ (∀ a, a < n → ∀ b, b < n → a ≠ b → (T a).2.1 ≠ (T b).2.1) ∧ Cond.fieldLink own idx (T k).1 (T k).2.1 (T k).2.2.1 ∈ gp_tbl) ∧ (T k).2.2.2 = false ∧ ty k = t
section R1
variable {G : gp_G} {N : Nat} {M : gp_M} {E : gp_E} {pc : Nat} {L : List (Nat × Value)} {st : List Value} {σ : gp_S}
theorem gp_ob {a ci : Nat} {fs : List gp_K1} (ha : a < 50) (hs : gp_sh a = .inr (ci, fs)) : (gp_ws G σ)[a]? = some (G.2.2.2 a, .inr (ci, fs.mapIdx (gp_val G.2.2.2 (σ.1 a) (σ.2 a)))) := by
  rw [gp_ws_at ha, hs]
  rfl
theorem gp_ai {a n : Nat} (ha : a < 50) (hs : gp_sh a = .inl (false, n)) : (gp_ws G σ)[a]? = some (G.2.2.2 a, .inl (G.2.2.1 a, n, .inl (σ.1 a))) := by
  rw [gp_ws_at ha, hs]
  rfl
theorem gp_aj {a n : Nat} (ha : a < 50) (hs : gp_sh a = .inl (true, n)) : (gp_ws G σ)[a]? = some (G.2.2.2 a, .inl (G.2.2.1 a, n, .inr (.inl (σ.2 a)))) := by
  rw [gp_ws_at ha, hs]
  rfl
theorem gp_ti {a n : Nat} (ha : a < 50) (hs : gp_sh a = .inl (false, n)) : (gp_tys G)[a]? = some (G.2.2.1 a, .int) := by
  rw [gp_tys_at ha, hs]
  rfl
theorem gp_tj {a n : Nat} (ha : a < 50) (hs : gp_sh a = .inl (true, n)) : (gp_tys G)[a]? = some (G.2.2.1 a, .long) := by
  rw [gp_tys_at ha, hs]
  rfl
theorem gp_mi {ad : Nat → Nat} {i : Nat → Int32} {j : Nat → Int64} {fs : List gp_K1} {k : Nat} {f : gp_K1} (hf : fs[k]? = some f) : (fs.mapIdx (gp_val ad i j))[k]? = some (gp_val ad i j k f) := by
  rw [List.getElem?_mapIdx, hf]
  rfl
theorem r_get (C : gp_ok G N M E) {idx ci k a : Nat} {fs : List gp_K1} {f : gp_K1} (fl : gp_Fl M.1.cls idx ci k) (ha : a < 50) (hs : gp_sh a = .inr (ci, fs)) (hf : fs[k]? = some f) (d : decode M.2.1 pc = .ok (.getfield idx, 3)) {v : Value} (hv : ∀ ad : Nat → Nat, gp_tr ad v = gp_val ad (σ.1 a) (σ.2 a) k f) (h : gp_W G E (pc + 3) L (v :: st) σ) : gp_W G E pc L (.ref a :: st) σ := by
  obtain ⟨Cn, T, n, ty, h1, h2, h3, h4, h5, h6⟩ := fl
  intro H locs ls hP hS hl
  refine va_get (D := G.2.1) (v := gp_tr G.2.2.2 v) C.hx C.hb C.hts h3 C.hown C.hK hP a (gp_ob ha hs) h1 k h2 (C.hts _ h6) (fun _ q => q) ?_ d (h H locs ls hP hS hl)
  rw [gp_mi hf, hv]
theorem r_geti (C : gp_ok G N M E) {idx ci k a : Nat} {fs : List gp_K1} (fl : gp_Fl M.1.cls idx ci k) (ha : a < 50) (hs : gp_sh a = .inr (ci, fs)) (hf : fs[k]? = some (.inr false)) (d : decode M.2.1 pc = .ok (.getfield idx, 3)) (h : gp_W G E (pc + 3) L (.int (σ.1 a k) :: st) σ) : gp_W G E pc L (.ref a :: st) σ := r_get C fl ha hs hf d (fun _ => rfl) h
theorem r_getj (C : gp_ok G N M E) {idx ci k a : Nat} {fs : List gp_K1} (fl : gp_Fl M.1.cls idx ci k) (ha : a < 50) (hs : gp_sh a = .inr (ci, fs)) (hf : fs[k]? = some (.inr true)) (d : decode M.2.1 pc = .ok (.getfield idx, 3)) (h : gp_W G E (pc + 3) L (.long (σ.2 a k) :: st) σ) : gp_W G E pc L (.ref a :: st) σ := r_get C fl ha hs hf d (fun _ => rfl) h
theorem r_getr (C : gp_ok G N M E) {idx ci k a b : Nat} {fs : List gp_K1} (fl : gp_Fl M.1.cls idx ci k) (ha : a < 50) (hs : gp_sh a = .inr (ci, fs)) (hf : fs[k]? = some (.inl b)) (d : decode M.2.1 pc = .ok (.getfield idx, 3)) (h : gp_W G E (pc + 3) L (.ref b :: st) σ) : gp_W G E pc L (.ref a :: st) σ := r_get C fl ha hs hf d (fun _ => rfl) h
theorem gp_seti {ad : Nat → Nat} {i : Nat → Int32} {j : Nat → Int64} {fs : List gp_K1} {k : Nat} {v : Int32} (hf : fs[k]? = some (.inr false)) : (fs.mapIdx (gp_val ad i j)).set k (.int v) = fs.mapIdx (gp_val ad (upd i k v) j) := by
  apply List.ext_getElem?
  intro b
  by_cases hb : b = k
  · subst hb
    rw [List.getElem?_set_self (by rw [List.length_mapIdx]; exact (List.getElem?_eq_some_iff.mp hf).1), gp_mi hf]
    simp [gp_val, upd]
  · rw [List.getElem?_set_ne (Ne.symm hb), List.getElem?_mapIdx, List.getElem?_mapIdx]
    cases fs[b]? with
    | none => rfl
    | some f =>
      rcases f with a | c
      · rfl
      · cases c
        · simp [gp_val, upd, hb]
        · rfl
theorem gp_setj {ad : Nat → Nat} {i : Nat → Int32} {j : Nat → Int64} {fs : List gp_K1} {k : Nat} {v : Int64} (hf : fs[k]? = some (.inr true)) : (fs.mapIdx (gp_val ad i j)).set k (.long v) = fs.mapIdx (gp_val ad i (vp_updL j k v)) := by
  apply List.ext_getElem?
  intro b
  by_cases hb : b = k
  · subst hb
    rw [List.getElem?_set_self (by rw [List.length_mapIdx]; exact (List.getElem?_eq_some_iff.mp hf).1), gp_mi hf]
    simp [gp_val, vp_updL]
  · rw [List.getElem?_set_ne (Ne.symm hb), List.getElem?_mapIdx, List.getElem?_mapIdx]
    cases fs[b]? with
    | none => rfl
    | some f =>
      rcases f with a | c
      · rfl
      · cases c
        · rfl
        · simp [gp_val, vp_updL, hb]
theorem gp_ui_eq (σ : gp_S) (a k : Nat) (v : Int32) : (gp_ui σ a k v).1 a = upd (σ.1 a) k v := by simp [gp_ui]
theorem gp_ui_ne (σ : gp_S) {a b : Nat} (k : Nat) (v : Int32) (h : b ≠ a) : (gp_ui σ a k v).1 b = σ.1 b := by simp [gp_ui, h]
theorem gp_uj_eq (σ : gp_S) (a k : Nat) (v : Int64) : (gp_uj σ a k v).2 a = vp_updL (σ.2 a) k v := by simp [gp_uj]
theorem gp_uj_ne (σ : gp_S) {a b : Nat} (k : Nat) (v : Int64) (h : b ≠ a) : (gp_uj σ a k v).2 b = σ.2 b := by simp [gp_uj, h]
theorem r_putT (C : gp_ok G N M E) {idx ci k a : Nat} {fs : List gp_K1} {t : FieldType} (fl : gp_Fp M.1.cls idx ci k t) (ha : a < 50) (hs : gp_sh a = .inr (ci, fs)) (hf : fs[k]? = some (.inr false)) {v : Int32} (hn : narrow t (.int v) = .int v) (hfit : fits t (.int v) = true) (d : decode M.2.1 pc = .ok (.putfield idx, 3)) (h : gp_W G E (pc + 3) L st (gp_ui σ a k v)) : gp_W G E pc L (.int v :: .ref a :: st) σ := by
  obtain ⟨Cn, T, n, ty, ⟨h1, h2, h3, h4, h5, h6⟩, h7, h8⟩ := fl
  intro H locs ls hP hS hl
  refine va_put (D := G.2.1) (v := .int v) (ty := t) C.hx C.hb C.hts h3 ty h4 h5 C.hown C.hK hP C.hD hS a (gp_ob ha hs) h1 k h2 (C.hts _ h6) (fun _ q => q) h7 (by rw [h4 k h2, h8]) hn hfit (by rw [List.length_mapIdx]; exact (List.getElem?_eq_some_iff.mp hf).1) d (fun H1 locs1 hP1 _ hS1 => h H1 locs1 ls ?_ hS1 hl)
  rwa [gp_ws_set (G := G) (σ := σ) (σ' := gp_ui σ a k v) ha (by rw [hs, gp_ui_eq, gp_seti hf]; rfl) (fun b hb => gp_ui_ne σ k v hb) (fun _ _ => rfl)] at hP1
theorem r_puti (C : gp_ok G N M E) {idx ci k a : Nat} {fs : List gp_K1} (fl : gp_Fp M.1.cls idx ci k .int) (ha : a < 50) (hs : gp_sh a = .inr (ci, fs)) (hf : fs[k]? = some (.inr false)) {v : Int32} (d : decode M.2.1 pc = .ok (.putfield idx, 3)) (h : gp_W G E (pc + 3) L st (gp_ui σ a k v)) : gp_W G E pc L (.int v :: .ref a :: st) σ := r_putT C fl ha hs hf rfl rfl d h
theorem gp_bool {v : Int32} (h : v = 0 ∨ v = 1) : narrow .boolean (.int v) = .int v ∧ fits .boolean (.int v) = true := by
  rcases h with rfl | rfl <;> exact ⟨by decide +kernel, by decide +kernel⟩
theorem r_putz (C : gp_ok G N M E) {idx ci k a : Nat} {fs : List gp_K1} (fl : gp_Fp M.1.cls idx ci k .boolean) (ha : a < 50) (hs : gp_sh a = .inr (ci, fs)) (hf : fs[k]? = some (.inr false)) {v : Int32} (hv : v = 0 ∨ v = 1) (d : decode M.2.1 pc = .ok (.putfield idx, 3)) (h : gp_W G E (pc + 3) L st (gp_ui σ a k v)) : gp_W G E pc L (.int v :: .ref a :: st) σ := r_putT C fl ha hs hf (gp_bool hv).1 (gp_bool hv).2 d h
theorem r_putj (C : gp_ok G N M E) {idx ci k a : Nat} {fs : List gp_K1} (fl : gp_Fp M.1.cls idx ci k .long) (ha : a < 50) (hs : gp_sh a = .inr (ci, fs)) (hf : fs[k]? = some (.inr true)) {v : Int64} (d : decode M.2.1 pc = .ok (.putfield idx, 3)) (h : gp_W G E (pc + 3) L st (gp_uj σ a k v)) : gp_W G E pc L (.long v :: .ref a :: st) σ := by
  obtain ⟨Cn, T, n, ty, ⟨h1, h2, h3, h4, h5, h6⟩, h7, h8⟩ := fl
  intro H locs ls hP hS hl
  refine va_put (D := G.2.1) (v := .long v) (ty := .long) C.hx C.hb C.hts h3 ty h4 h5 C.hown C.hK hP C.hD hS a (gp_ob ha hs) h1 k h2 (C.hts _ h6) (fun _ q => q) h7 (by rw [h4 k h2, h8]) rfl rfl (by rw [List.length_mapIdx]; exact (List.getElem?_eq_some_iff.mp hf).1) d (fun H1 locs1 hP1 _ hS1 => h H1 locs1 ls ?_ hS1 hl)
  rwa [gp_ws_set (G := G) (σ := σ) (σ' := gp_uj σ a k v) ha (by rw [hs, gp_uj_eq, gp_setj hf]; rfl) (fun _ _ => rfl) (fun b hb => gp_uj_ne σ k v hb)] at hP1
/-- arrays -/
theorem r_iald (C : gp_ok G N M E) {a n : Nat} {i : Int32} (ha : a < 50) (hs : gp_sh a = .inl (false, n)) (hin : vp_in i n) (d : decode M.2.1 pc = .ok (.iaload, 1)) (h : gp_W G E (pc + 1) L (.int (σ.1 a i.toNatClampNeg) :: st) σ) : gp_W G E pc L (.int i :: .ref a :: st) σ :=
  fun H locs ls hP hS hl => va_iald C.hx C.hb C.hK hP a a (gp_ai ha hs) (gp_ti ha hs) hin d (h H locs ls hP hS hl)
theorem r_lald (C : gp_ok G N M E) {a n : Nat} {i : Int32} (ha : a < 50) (hs : gp_sh a = .inl (true, n)) (hin : vp_in i n) (d : decode M.2.1 pc = .ok (.laload, 1)) (h : gp_W G E (pc + 1) L (.long (σ.2 a i.toNatClampNeg) :: st) σ) : gp_W G E pc L (.int i :: .ref a :: st) σ :=
  fun H locs ls hP hS hl => va_lald C.hx C.hb C.hK hP a a (gp_aj ha hs) (gp_tj ha hs) hin d (h H locs ls hP hS hl)
theorem r_iast (C : gp_ok G N M E) {a n : Nat} {i x : Int32} (ha : a < 50) (hs : gp_sh a = .inl (false, n)) (hin : vp_in i n) (d : decode M.2.1 pc = .ok (.iastore, 1)) (h : gp_W G E (pc + 1) L st (gp_ui σ a i.toNatClampNeg x)) : gp_W G E pc L (.int x :: .int i :: .ref a :: st) σ := by
  intro H locs ls hP hS hl
  refine va_iast C.hx C.hb C.hK hP C.hD hS a a (gp_ai ha hs) (gp_ti ha hs) hin d (fun H1 locs1 hP1 _ hS1 => h H1 locs1 ls ?_ hS1 hl)
  rwa [gp_ws_set (G := G) (σ := σ) (σ' := gp_ui σ a i.toNatClampNeg x) ha (by rw [hs, gp_ui_eq]; rfl) (fun b hb => gp_ui_ne σ _ x hb) (fun _ _ => rfl)] at hP1
theorem r_last (C : gp_ok G N M E) {a n : Nat} {i : Int32} {x : Int64} (ha : a < 50) (hs : gp_sh a = .inl (true, n)) (hin : vp_in i n) (d : decode M.2.1 pc = .ok (.lastore, 1)) (h : gp_W G E (pc + 1) L st (gp_uj σ a i.toNatClampNeg x)) : gp_W G E pc L (.long x :: .int i :: .ref a :: st) σ := by
  intro H locs ls hP hS hl
  refine va_last C.hx C.hb C.hK hP C.hD hS a a (gp_aj ha hs) (gp_tj ha hs) hin d (fun H1 locs1 hP1 _ hS1 => h H1 locs1 ls ?_ hS1 hl)
  rwa [gp_ws_set (G := G) (σ := σ) (σ' := gp_uj σ a i.toNatClampNeg x) ha (by rw [hs, gp_uj_eq]; rfl) (fun _ _ => rfl) (fun b hb => gp_uj_ne σ _ x hb)] at hP1
theorem r_alen (C : gp_ok G N M E) {a n : Nat} (ha : a < 50) (hs : gp_sh a = .inl (false, n)) (d : decode M.2.1 pc = .ok (.arraylength, 1)) (h : gp_W G E (pc + 1) L (.int (nI n) :: st) σ) : gp_W G E pc L (.ref a :: st) σ :=
  fun H locs ls hP hS hl => va_alen C.hx C.hb C.hK hP a a (gp_ai ha hs) (gp_ti ha hs) rfl d (h H locs ls hP hS hl)
/-- System.arraycopy of the first n ints of one array to another -/
theorem r_copy (C : gp_ok G N M E) {idx a b na nb : Nat} {n : Int32} {k : Nat} (hlink : Cond.methodLink M.1.cls idx arraycopyName ∈ gp_tbl) (hnat : Cond.native arraycopyName ∈ gp_tbl) (hstat : Cond.static arraycopyName ∈ gp_tbl) (hini : Cond.initialized "java/lang/System" ∈ gp_tbl) (hN : 1 ≤ N)
    (ha : a < 50) (hs : gp_sh a = .inl (false, na)) (hb : b < 50) (hsb : gp_sh b = .inl (false, nb)) (hn : n = nI k) (hk : k < 2 ^ 31) (h4 : k ≤ na) (h5 : k ≤ nb) (d : decode M.2.1 pc = .ok (.invokestatic idx, 3))
    (h : gp_W G E (pc + 3) L [] (gp_ua σ b (va_cpy (σ.1 a) (σ.1 b) 0 0 k))) : gp_W G E pc L [.int n, .int 0, .ref b, .int 0, .ref a] σ := by
  intro H locs ls hP hS hl
  subst hn
  have hz : (0 : Int32).toNatClampNeg = 0 := rfl
  have hc := nI_clamp hk
  have hlo := C.hlo
  have hfr := C.hfr
  refine va_copyi C.hx C.hb hl.1.symm C.hown (C.hts _ hlink) (C.hts _ hnat) (C.hts _ hstat) (C.hts _ hini) C.hK hP C.hD hS a b a b (gp_ai ha hs) (gp_ai hb hsb) (gp_ti ha hs) (gp_ti hb hsb) rfl (by decide) (by decide) (nI_pos hk) (by rw [hz, hc]; omega) (by rw [hz, hc]; omega) (fun _ _ => rfl) (by omega) ?_ d (fun H1 locs1 hP1 _ hS1 => h H1 locs1 ls ?_ hS1 hl)
  · have : (List.map (fun v => v.category) ([] : List Value)).sum + (nativeFrameWords "java/lang/System" "arraycopy" 5 + 11) ≤ 60 := by decide +kernel
    exact Nat.le_trans this (by omega)
  · rw [hz, hc] at hP1
    rwa [gp_ws_set (G := G) (σ := σ) (σ' := gp_ua σ b (va_cpy (σ.1 a) (σ.1 b) 0 0 k)) hb (by rw [hsb]; simp [gp_ua, gp_cell]) (fun c hc => by simp [gp_ua, hc]) (fun _ _ => rfl)] at hP1
end R1
