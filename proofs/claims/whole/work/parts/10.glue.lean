def kI (f : Int32 → gp_S → Prop) : Option Value → gp_S → Prop := fun r s => ∃ x : Int32, r = some (.int x) ∧ f x s
def kL (f : Int64 → gp_S → Prop) : Option Value → gp_S → Prop := fun r s => ∃ x : Int64, r = some (.long x) ∧ f x s
def kV (f : gp_S → Prop) : Option Value → gp_S → Prop := fun r s => r = none ∧ f s
theorem kI_mk {f : Int32 → gp_S → Prop} {x : Int32} {s : gp_S} (h : f x s) : kI f (some (.int x)) s := ⟨x, rfl, h⟩
theorem kL_mk {f : Int64 → gp_S → Prop} {x : Int64} {s : gp_S} (h : f x s) : kL f (some (.long x)) s := ⟨x, rfl, h⟩
theorem kV_mk {f : gp_S → Prop} {s : gp_S} (h : f s) : kV f none s := ⟨rfl, h⟩
section R3
variable {G : gp_G} {N n : Nat} {M M2 : gp_M} {E : gp_E} {pc : Nat} {L : List (Nat × Value)} {st rest : List Value} {σ : gp_S} {K K2 : Option Value → gp_S → Prop} {av : List Value}
theorem gp_C_mono (h : gp_C G n M av K σ) (hk : ∀ r s, K r s → K2 r s) : gp_C G n M av K2 σ := by
  intro p e ha hc hl s m args below hf hfit hP hK
  obtain ⟨k, o, h1, h2, h3, h4, h5⟩ := h p e ha hc hl s m args below hf hfit hP hK
  obtain ⟨⟨r, s', e1, e2, e3⟩, e4⟩ := h4
  exact ⟨k, o, h1, h2, h3, ⟨⟨r, s', e1, hk r s' e2, e3⟩, e4⟩, h5⟩
theorem mono_I {f : Int32 → gp_S → Prop} (h : gp_C G n M av (kI f) σ) (hk : ∀ x s, f x s → K (some (.int x)) s) : gp_C G n M av K σ :=
  gp_C_mono h (fun r s q => by obtain ⟨x, rfl, hx⟩ := q; exact hk x s hx)
theorem mono_L {f : Int64 → gp_S → Prop} (h : gp_C G n M av (kL f) σ) (hk : ∀ x s, f x s → K (some (.long x)) s) : gp_C G n M av K σ :=
  gp_C_mono h (fun r s q => by obtain ⟨x, rfl, hx⟩ := q; exact hk x s hx)
theorem mono_V {f : gp_S → Prop} (h : gp_C G n M av (kV f) σ) (hk : ∀ s, f s → K none s) : gp_C G n M av K σ :=
  gp_C_mono h (fun r s q => by obtain ⟨rfl, hx⟩ := q; exact hk s hx)
theorem r_is (h : gp_W G E pc L st σ) : gp_W G E pc L st σ := h
theorem r_topi {x y : Int32} (e : x = y) (h : gp_W G E pc L (.int y :: st) σ) : gp_W G E pc L (.int x :: st) σ := by subst e; exact h
theorem r_topj {x y : Int64} (e : x = y) (h : gp_W G E pc L (.long y :: st) σ) : gp_W G E pc L (.long x :: st) σ := by subst e; exact h
theorem r_sig {σ' : gp_S} (e : σ = σ') (h : gp_W G E pc L st σ') : gp_W G E pc L st σ := by subst e; exact h
theorem r_tab (C : gp_ok G N M E) {dflt : Int} {hi : Nat} {offs : Array Int} {len : Nat} {x : Int32} (hh : hi < 1000) (d : decode M.2.1 pc = .ok (.tableswitch dflt 0 (hi : Int) offs, len)) (T : List Nat) (hT : offs.toList.map (fun o => (pc : Int) + o) = T.map Int.ofNat) (hl : T.length = hi + 1) (td : Nat) (htd : (pc : Int) + dflt = (td : Int))
    (h1 : ∀ j, j ≤ hi → x = nI j → gp_W G E (T.getD j 0) L st σ) (h2 : (∀ j, j ≤ hi → ¬ x = nI j) → gp_W G E td L st σ) : gp_W G E pc L (.int x :: st) σ := by
  by_cases hc : ∃ j, j ≤ hi ∧ x = nI j
  · obtain ⟨j, hj, hx⟩ := hc
    have hxi : x.toInt = (j : Int) := by rw [hx]; exact nI_toInt (by omega)
    have hjT : j < T.length := by omega
    have hlen : offs.toList.length = T.length := by
      have := congrArg List.length hT
      simpa using this
    have hjo : j < offs.toList.length := by omega
    have hget := congrArg (fun l => l[j]?) hT
    simp only [List.getElem?_map] at hget
    rw [List.getElem?_eq_getElem hjo, List.getElem?_eq_getElem hjT] at hget
    simp only [Option.map_some, Option.some.injEq] at hget
    refine r_tabI C (T.getD j 0) d (by rw [hxi]; omega) (by rw [hxi]; omega) (off := offs.toList[j]) ?_ ?_ (h1 j hj hx)
    · have e1 : (x.toInt - 0).toNat = j := by rw [hxi]; omega
      rw [e1]
      have h3 : offs.toList[j]? = some offs.toList[j] := List.getElem?_eq_getElem hjo
      rw [← h3]
      simp
    · rw [hget]
      simp [List.getD_eq_getElem?_getD, List.getElem?_eq_getElem hjT]
  · refine r_tabO C td d ?_ htd (h2 (fun j hj hx => hc ⟨j, hj, hx⟩))
    by_cases hneg : x.toInt < 0
    · exact Or.inl hneg
    · right
      apply Decidable.byContradiction
      intro hle
      have hx0 : ¬ x < 0 := by
        intro q
        exact hneg (by have := Int32.lt_iff_toInt_lt.mp q; simpa using this)
      obtain ⟨j, hj, hx⟩ := nI_of hx0
      have hxi : x.toInt = (j : Int) := by rw [hx]; exact nI_toInt hj
      exact hc ⟨j, by omega, hx⟩
theorem r_mmax (C : gp_ok G (N + 1) M E) {idx : Nat} {x y : Int32} (mv : gp_Ms M.1.cls idx mJ9_max_7cf53 2) (hcat : (rest.map fun v => v.category).sum ≤ 8) (d : decode M.2.1 pc = .ok (.invokestatic idx, 3)) (h : gp_W G E (pc + 3) L (.int (if x < y then y else x) :: rest) σ) : gp_W G E pc L (.int y :: .int x :: rest) σ := by
  obtain ⟨⟨h1, h2, h3, h4⟩, h5, h6⟩ := mv
  intro H locs ls hP hS hl
  have hlo := C.hlo
  have hfr := C.hfr
  exact va_mmax C.hx C.hb hl.1.symm C.hown (C.hts _ h5) (C.hts _ h6) (C.hts _ h2) (C.hts _ h1) (by omega) (by rw [gp_rest]; omega) C.hce C.hsl d (h H locs ls hP hS hl)
theorem r_mmin (C : gp_ok G (N + 1) M E) {idx : Nat} {x y : Int32} (mv : gp_Ms M.1.cls idx mJ9_min_7cf53 2) (hcat : (rest.map fun v => v.category).sum ≤ 8) (d : decode M.2.1 pc = .ok (.invokestatic idx, 3)) (h : gp_W G E (pc + 3) L (.int (if y < x then y else x) :: rest) σ) : gp_W G E pc L (.int y :: .int x :: rest) σ := by
  obtain ⟨⟨h1, h2, h3, h4⟩, h5, h6⟩ := mv
  intro H locs ls hP hS hl
  have hlo := C.hlo
  have hfr := C.hfr
  exact va_mmin C.hx C.hb hl.1.symm C.hown (C.hts _ h5) (C.hts _ h6) (C.hts _ h2) (C.hts _ h1) (by omega) (by rw [gp_rest]; omega) C.hce C.hsl d (h H locs ls hP hS hl)
end R3
