/-! the abstract state: page, board, stimulus, fault, (looked, found), counters; what class and reference hold of it -/
abbrev gA : Type := (Nat × (Nat → Nat)) × gB × gT × Nat × (Nat × Nat) × (Int32 × Int32 × Int32)
def okG (a : gA) : Prop := okP a.1.1 a.1.2 ∧ okB a.2.1 ∧ okT a.2.2.1 ∧ okH a.2.1 a.2.2.2.1 ∧ okL (bN a.2.1) a.2.2.2.2.1.1 a.2.2.2.2.1.2
def scX (a : gA) (s : gp_S) : Prop := s.1 0 11 = nI a.2.2.2.1 ∧ s.1 0 12 = a.2.2.2.2.2.1 ∧ s.1 0 13 = a.2.2.2.2.2.2.1 ∧ s.1 24 2 = a.2.2.2.2.2.2.2
def IX (a : gA) (s : gp_S) : Prop := pgX a.1.1 a.1.2 s ∧ bX a.2.1 s ∧ tX a.2.2.1 s ∧ scX a s ∧ vvX s ∧ hsX 15 16 a.2.1 a.2.2.1 0 s ∧ hsX 18 19 a.2.1 a.2.2.1 a.2.2.2.1 s ∧ lst s 21 (s.1 20 3) (flN a.2.1) ∧ shX a.2.1 a.2.2.1 s ∧ sbX (bbF a.2.1 a.2.2.1) (nfN a.2.1) s ∧ prX a.2.2.2.2.1.1 a.2.2.2.2.1.2 s ∧ suX (bbF a.2.1 a.2.2.1) (nfN a.2.1) (bN a.2.1) a.2.2.2.2.1.1 a.2.2.2.2.1.2 s ∧ fsX (fiN a.2.1 a.2.2.1 a.2.2.2.1) (bN a.2.1) s
def scM (a : gA) (s : gp_S) : Prop := s.1 34 8 = nI a.2.2.2.1 ∧ s.1 34 11 = a.2.2.2.2.2.1 ∧ s.1 34 12 = a.2.2.2.2.2.2.1 ∧ s.1 34 13 = a.2.2.2.2.2.2.2 ∧ s.1 34 9 = nI a.2.2.2.2.1.1 ∧ s.1 34 10 = nI a.2.2.2.2.1.2
def IM (a : gA) (s : gp_S) : Prop := pgM a.1.1 a.1.2 s ∧ bM a.2.1 s ∧ tM a.2.2.1 s ∧ scM a s ∧ hsM 44 a.2.1 a.2.2.1 0 s ∧ hsM 45 a.2.1 a.2.2.1 a.2.2.2.1 s ∧ flM a.2.1 s ∧ shM a.2.1 a.2.2.1 s
def keepM (s s' : gp_S) : Prop := ∀ a, 34 ≤ a → s'.1 a = s.1 a ∧ s'.2 a = s.2 a
def keepX (s s' : gp_S) : Prop := ∀ a, a < 34 → s'.1 a = s.1 a ∧ s'.2 a = s.2 a
theorem keepM.rfl {s : gp_S} : keepM s s := fun _ _ => ⟨Eq.refl _, Eq.refl _⟩
theorem keepX.rfl {s : gp_S} : keepX s s := fun _ _ => ⟨Eq.refl _, Eq.refl _⟩
theorem keepM.trans {s s1 s2 : gp_S} (h1 : keepM s s1) (h2 : keepM s1 s2) : keepM s s2 := fun a ha => ⟨(h2 a ha).1.trans (h1 a ha).1, (h2 a ha).2.trans (h1 a ha).2⟩
theorem keepX.trans {s s1 s2 : gp_S} (h1 : keepX s s1) (h2 : keepX s1 s2) : keepX s s2 := fun a ha => ⟨(h2 a ha).1.trans (h1 a ha).1, (h2 a ha).2.trans (h1 a ha).2⟩
theorem fm.keepM {P : Nat → Nat → Bool} {s s' : gp_S} (h : fm P s s') (hp : ∀ a k, 34 ≤ a → P a k = false) : keepM s s' := fun a ha => ⟨funext fun k => (h a k (hp a k ha)).1, funext fun k => (h a k (hp a k ha)).2⟩
theorem fm.keepX {P : Nat → Nat → Bool} {s s' : gp_S} (h : fm P s s') (hp : ∀ a k, a < 34 → P a k = false) : keepX s s' := fun a ha => ⟨funext fun k => (h a k (hp a k ha)).1, funext fun k => (h a k (hp a k ha)).2⟩
theorem keepM.ui {s s' : gp_S} (h : keepM s s') (a k : Nat) (v : Int32) (ha : a < 34 := by decide) : keepM s (gp_ui s' a k v) := fun b hb => ⟨by rw [gp_ui_ne _ _ _ (by omega)]; exact (h b hb).1, (h b hb).2⟩
theorem keepX.ui {s s' : gp_S} (h : keepX s s') (a k : Nat) (v : Int32) (ha : 34 ≤ a := by decide) : keepX s (gp_ui s' a k v) := fun b hb => ⟨by rw [gp_ui_ne _ _ _ (by omega)]; exact (h b hb).1, (h b hb).2⟩
theorem keepX.uj {s s' : gp_S} (h : keepX s s') (a k : Nat) (v : Int64) (ha : 34 ≤ a := by decide) : keepX s (gp_uj s' a k v) := fun b hb => ⟨(h b hb).1, by rw [gp_uj_ne _ _ _ (by omega)]; exact (h b hb).2⟩
def hiM (s : gp_S) : gp_S := (fun a => if 34 ≤ a then s.1 a else fun _ => 0, fun a => if 34 ≤ a then s.2 a else fun _ => 0)
def loX (s : gp_S) : gp_S := (fun a => if a < 34 then s.1 a else fun _ => 0, fun a => if a < 34 then s.2 a else fun _ => 0)
theorem keepM.hi {s s' : gp_S} (h : keepM s s') : hiM s' = hiM s := by
  unfold hiM
  congr 1 <;> funext a <;> split
  · exact (h a (by assumption)).1
  · rfl
  · exact (h a (by assumption)).2
  · rfl
theorem keepX.lo {s s' : gp_S} (h : keepX s s') : loX s' = loX s := by
  unfold loX
  congr 1 <;> funext a <;> split
  · exact (h a (by assumption)).1
  · rfl
  · exact (h a (by assumption)).2
  · rfl
theorem IM_hi (a : gA) (s : gp_S) : IM a s = IM a (hiM s) := rfl
theorem IX_lo (a : gA) (s : gp_S) : IX a s = IX a (loX s) := rfl
theorem IM.keep {a : gA} {s s' : gp_S} (h : IM a s) (k : keepM s s') : IM a s' := by
  rw [IM_hi, k.hi, ← IM_hi]
  exact h
theorem IX.keep {a : gA} {s s' : gp_S} (h : IX a s) (k : keepX s s') : IX a s' := by
  rw [IX_lo, k.lo, ← IX_lo]
  exact h
theorem pgX.fm {pl : Nat} {cs : Nat → Nat} {s s' : gp_S} {P : Nat → Nat → Bool} (hh : pgX pl cs s) (hf : fm P s s') (h1 : P 1 1 = false := by rfl) (h2 : ∀ k, P 2 k = false := by intro k; rfl) : pgX pl cs s' := ⟨by rw [hf.i 1 1 h1]; exact hh.1, fun i hi => by rw [hf.i 2 i (h2 i)]; exact hh.2 i hi⟩
theorem pgM.fm {pl : Nat} {cs : Nat → Nat} {s s' : gp_S} {P : Nat → Nat → Bool} (hh : pgM pl cs s) (hf : fm P s s') (h1 : P 34 0 = false := by rfl) (h2 : ∀ k, P 35 k = false := by intro k; rfl) : pgM pl cs s' := ⟨by rw [hf.i 34 0 h1]; exact hh.1, fun i hi => by rw [hf.i 35 i (h2 i)]; exact hh.2 i hi⟩
theorem scX.fm {a : gA} {s s' : gp_S} {P : Nat → Nat → Bool} (hh : scX a s) (hf : fm P s s') (h1 : P 0 11 = false := by rfl) (h2 : P 0 12 = false := by rfl) (h3 : P 0 13 = false := by rfl) (h4 : P 24 2 = false := by rfl) : scX a s' := ⟨by rw [hf.i 0 11 h1]; exact hh.1, by rw [hf.i 0 12 h2]; exact hh.2.1, by rw [hf.i 0 13 h3]; exact hh.2.2.1, by rw [hf.i 24 2 h4]; exact hh.2.2.2⟩
theorem scM.fm {a : gA} {s s' : gp_S} {P : Nat → Nat → Bool} (hh : scM a s) (hf : fm P s s') (h1 : P 34 8 = false := by rfl) (h2 : P 34 11 = false := by rfl) (h3 : P 34 12 = false := by rfl) (h4 : P 34 13 = false := by rfl) (h5 : P 34 9 = false := by rfl) (h6 : P 34 10 = false := by rfl) : scM a s' := ⟨by rw [hf.i 34 8 h1]; exact hh.1, by rw [hf.i 34 11 h2]; exact hh.2.1, by rw [hf.i 34 12 h3]; exact hh.2.2.1, by rw [hf.i 34 13 h4]; exact hh.2.2.2.1, by rw [hf.i 34 9 h5]; exact hh.2.2.2.2.1, by rw [hf.i 34 10 h6]; exact hh.2.2.2.2.2⟩
/-! boards as the parser has them -/
def drvP (A : gPS) : Prop := ∀ g p, g < A.2.2.1 → p < pinsN (A.2.2.2.1 g) → A.2.2.2.2 (2 * g + p) < A.2.1 + A.2.2.1 ∧ (A.2.2.2.2 (2 * g + p) < A.2.1 + g ∨ A.2.2.2.1 g = 5 ∨ (A.2.1 ≤ A.2.2.2.2 (2 * g + p) ∧ A.2.2.2.1 (A.2.2.2.2 (2 * g + p) - A.2.1) = 5))
def mkB (A : gPS) : gB := (A.2.1, A.2.1 + A.2.2.1, fun n => if n < A.2.1 then 0 else A.2.2.2.1 (n - A.2.1), fun k => A.2.2.2.2 (k - 2 * A.2.1))
def goodA (pl k : Nat) (A : gPS) : Prop := k = pl ∧ A.1 = 1 ∧ 0 < A.2.2.1 ∧ drvP A
theorem mkB_ok {A : gPS} (hA : okA A) (hd : drvP A) : okB (mkB A) := by
  obtain ⟨h1, h2, h3, h4, h5, h6, h7, h8, h9, h10⟩ := hA
  refine ⟨h4, Nat.le_add_right _ _, ?_, fun n hn => ?_, fun n hn => ?_, fun n p hn hp => ?_⟩
  · show A.2.1 + A.2.2.1 ≤ A.2.1 + 8; omega
  · show (if n < A.2.1 then 0 else A.2.2.2.1 (n - A.2.1)) ≤ 5
    have hn : n < A.2.1 + A.2.2.1 := hn
    split
    · omega
    · exact (h8 _ (by omega)).2
  · show (if n < A.2.1 then 0 else A.2.2.2.1 (n - A.2.1)) = 0
    rw [if_pos (show n < A.2.1 from hn)]
  · have hn : n < A.2.1 + A.2.2.1 := hn
    have hk : bK (mkB A) n = if n < A.2.1 then 0 else A.2.2.2.1 (n - A.2.1) := rfl
    rw [hk] at hp ⊢
    by_cases e : n < A.2.1
    · rw [if_pos e, pinsN_0] at hp; omega
    · rw [if_neg e] at hp ⊢
      have := hd (n - A.2.1) p (by omega) hp
      have e2 : bD (mkB A) (2 * n + p) = A.2.2.2.2 (2 * (n - A.2.1) + p) := by
        have e3 : 2 * n + p - 2 * A.2.1 = 2 * (n - A.2.1) + p := by omega
        show A.2.2.2.2 (2 * n + p - 2 * A.2.1) = _
        rw [e3]
      rw [e2]
      refine ⟨this.1, ?_⟩
      rcases this.2 with q | q | ⟨q1, q2⟩
      · exact Or.inl (by omega)
      · exact Or.inr (Or.inl q)
      · refine Or.inr (Or.inr ?_)
        show (if A.2.2.2.2 (2 * (n - A.2.1) + p) < A.2.1 then 0 else _) = 5
        rw [if_neg (by omega)]
        exact q2
