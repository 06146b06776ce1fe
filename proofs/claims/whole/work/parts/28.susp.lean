/-! suspects: bb i is what fault i shows, as bits; L which nodes were looked at, F which of them were found bad -/
def fit (bb : Nat → Nat) (L F i : Nat) : Bool := decide (bb i ≠ 0) && decide ((bb i ^^^ F) &&& L = 0)
def cntN (bb : Nat → Nat) (nf L F : Nat) : Nat := fb_ct (fit bb L F) nf
def nxS (bb : Nat → Nat) (nf L F : Nat) : Nat → Option Nat × Nat
  | 0 => (none, cntN bb nf L F * cntN bb nf L F)
  | n + 1 => if L.testBit n then nxS bb nf L F n
    else if cntN bb nf (L ||| 2 ^ n) (F ||| 2 ^ n) * cntN bb nf (L ||| 2 ^ n) (F ||| 2 ^ n) + (cntN bb nf L F - cntN bb nf (L ||| 2 ^ n) (F ||| 2 ^ n)) * (cntN bb nf L F - cntN bb nf (L ||| 2 ^ n) (F ||| 2 ^ n)) < (nxS bb nf L F n).2
      then (some n, cntN bb nf (L ||| 2 ^ n) (F ||| 2 ^ n) * cntN bb nf (L ||| 2 ^ n) (F ||| 2 ^ n) + (cntN bb nf L F - cntN bb nf (L ||| 2 ^ n) (F ||| 2 ^ n)) * (cntN bb nf L F - cntN bb nf (L ||| 2 ^ n) (F ||| 2 ^ n)))
      else nxS bb nf L F n
def nxN (bb : Nat → Nat) (nf nn L F : Nat) : Option Nat := (nxS bb nf L F nn).1
def okL (nn L F : Nat) : Prop := L < 2 ^ nn ∧ ∀ j, F.testBit j = true → L.testBit j = true
theorem and_z {a b : Nat} : a &&& b = 0 ↔ ∀ j, b.testBit j = true → a.testBit j = false := by
  constructor
  · intro h j hj
    have := congrArg (fun x => x.testBit j) h
    simp only [Nat.testBit_and, hj, Bool.and_true, Nat.zero_testBit] at this
    exact this
  · intro h
    apply Nat.eq_of_testBit_eq
    intro j
    rw [Nat.testBit_and, Nat.zero_testBit]
    cases hb : b.testBit j with
    | false => simp
    | true => rw [h j hb]; rfl
theorem tb_or2 (a n j : Nat) : (a ||| 2 ^ n).testBit j = (a.testBit j || decide (n = j)) := by rw [Nat.testBit_or, Nat.testBit_two_pow]
theorem bool_dec {a : Bool} {P : Prop} [Decidable P] (h : a = true ↔ P) : a = decide P := by
  cases a with
  | false => exact (decide_eq_false (fun q => by have := h.mpr q; cases this)).symm
  | true => exact (decide_eq_true (h.mp rfl)).symm
theorem fit_iff {bb : Nat → Nat} {L F i : Nat} : fit bb L F i = true ↔ bb i ≠ 0 ∧ ∀ j, L.testBit j = true → (bb i).testBit j = F.testBit j := by
  unfold fit
  rw [Bool.and_eq_true, decide_eq_true_eq, decide_eq_true_eq, and_z]
  constructor
  · rintro ⟨h1, h2⟩
    refine ⟨h1, fun j hj => ?_⟩
    have := h2 j hj
    rw [Nat.testBit_xor] at this
    cases h3 : (bb i).testBit j <;> cases h4 : F.testBit j <;> simp [h3, h4] at this ⊢
  · rintro ⟨h1, h2⟩
    refine ⟨h1, fun j hj => ?_⟩
    rw [Nat.testBit_xor, h2 j hj]
    simp
theorem fit_bad {bb : Nat → Nat} {L F i n : Nat} (hL : L.testBit n = false) (hF : F.testBit n = false) : fit bb (L ||| 2 ^ n) (F ||| 2 ^ n) i = (fit bb L F i && (bb i).testBit n) := by
  apply Bool.eq_iff_iff.mpr
  rw [Bool.and_eq_true, fit_iff, fit_iff]
  constructor
  · rintro ⟨h1, h2⟩
    refine ⟨⟨h1, fun j hj => ?_⟩, ?_⟩
    · have hjn : n ≠ j := fun e => by rw [e, hj] at hL; cases hL
      have := h2 j (by rw [tb_or2, hj]; rfl)
      rw [tb_or2] at this
      simpa [hjn] using this
    · have := h2 n (by rw [tb_or2]; simp)
      rw [tb_or2] at this
      simpa using this
  · rintro ⟨⟨h1, h2⟩, h3⟩
    refine ⟨h1, fun j hj => ?_⟩
    rw [tb_or2] at hj ⊢
    by_cases e : n = j
    · subst e; simp [h3]
    · simp only [e, decide_false, Bool.or_false] at hj ⊢
      exact h2 j hj
theorem fit_good {bb : Nat → Nat} {L F i n : Nat} (hF : F.testBit n = false) : fit bb (L ||| 2 ^ n) F i = (fit bb L F i && !(bb i).testBit n) := by
  apply Bool.eq_iff_iff.mpr
  rw [Bool.and_eq_true, fit_iff, fit_iff]
  constructor
  · rintro ⟨h1, h2⟩
    refine ⟨⟨h1, fun j hj => h2 j (by rw [tb_or2, hj]; rfl)⟩, ?_⟩
    have := h2 n (by rw [tb_or2]; simp)
    rw [this, hF]
    rfl
  · rintro ⟨⟨h1, h2⟩, h3⟩
    refine ⟨h1, fun j hj => ?_⟩
    rw [tb_or2] at hj
    by_cases e : n = j
    · subst e
      rw [hF]
      simpa using h3
    · simp only [e, decide_false, Bool.or_false] at hj
      exact h2 j hj
theorem okL.F {nn L F n : Nat} (h : okL nn L F) (hn : L.testBit n = false) : F.testBit n = false := by
  cases hf : F.testBit n with
  | false => rfl
  | true => rw [h.2 n hf] at hn; cases hn
theorem cnt_bad_le {bb : Nat → Nat} {nf nn L F n : Nat} (h : okL nn L F) (hn : L.testBit n = false) : cntN bb nf (L ||| 2 ^ n) (F ||| 2 ^ n) ≤ cntN bb nf L F := by
  unfold cntN
  apply fb_ct_sub
  intro k _ hk
  rw [fit_bad hn (h.F hn), Bool.and_eq_true] at hk
  exact hk.1
theorem nxS_le (bb : Nat → Nat) (nf L F : Nat) : ∀ n, (nxS bb nf L F n).2 ≤ cntN bb nf L F * cntN bb nf L F
  | 0 => Nat.le_refl _
  | n + 1 => by
    have ih := nxS_le bb nf L F n
    unfold nxS
    split
    · exact ih
    · split
      · rename_i h; exact Nat.le_of_lt (Nat.lt_of_lt_of_le h ih)
      · exact ih
theorem nxS_some {bb : Nat → Nat} {nf L F : Nat} : ∀ {n r : Nat}, (nxS bb nf L F n).1 = some r → r < n ∧ L.testBit r = false
  | 0, r, h => by cases h
  | n + 1, r, h => by
    unfold nxS at h
    split at h
    · have := nxS_some h; exact ⟨by omega, this.2⟩
    · rename_i hb
      split at h
      · cases h
        exact ⟨by omega, by simpa using hb⟩
      · have := nxS_some h; exact ⟨by omega, this.2⟩
theorem nxS_more {bb : Nat → Nat} {nf nn L F : Nat} (h : okL nn L F) (hb : ∀ i, i < nf → bb i < 2 ^ nn) : ∀ e, nxS bb nf L F (nn + e) = nxS bb nf L F nn
  | 0 => rfl
  | e + 1 => by
    have ih := nxS_more h hb e
    rw [show nn + (e + 1) = nn + e + 1 from rfl, nxS, ih]
    split
    · rfl
    · rename_i hn
      have hn : L.testBit (nn + e) = false := by simpa using hn
      have hc : cntN bb nf (L ||| 2 ^ (nn + e)) (F ||| 2 ^ (nn + e)) = 0 := by
        unfold cntN
        rw [fb_ct_zero]
        intro k hk
        rw [fit_bad hn (h.F hn), Nat.testBit_lt_two_pow (Nat.lt_of_lt_of_le (hb k hk) (Nat.pow_le_pow_right (by omega) (by omega))), Bool.and_false]
      rw [hc, if_neg]
      have := nxS_le bb nf L F nn
      simp only [Nat.mul_zero, Nat.zero_add, Nat.sub_zero]
      omega
def unL (nn L : Nat) : Nat := fb_ct (fun n => !L.testBit n) nn
theorem unL_le (nn L : Nat) : unL nn L ≤ nn := fb_ct_le _ _
theorem unL_or {nn L n : Nat} (hn : n < nn) (hb : L.testBit n = false) : unL nn (L ||| 2 ^ n) + 1 = unL nn L := by
  unfold unL
  have := fb_ct_upd (fun k => !L.testBit k) false hn
  rw [hb] at this
  simp only [Bool.not_false, if_true, Bool.false_eq_true, if_false, Nat.add_zero] at this
  rw [← this]
  congr 1
  apply fb_ct_cong
  intro k _
  rw [tb_or2]
  by_cases e : k = n
  · subst e; simp
  · simp [e, show ¬ n = k from fun q => e q.symm]
theorem unL_none {bb : Nat → Nat} {nf nn L F : Nat} (h : unL nn L = 0) : nxN bb nf nn L F = none := by
  unfold nxN
  cases hx : (nxS bb nf L F nn).1 with
  | none => rfl
  | some r =>
    obtain ⟨h1, h2⟩ := nxS_some hx
    have := fb_ct_zero.mp h r h1
    rw [h2] at this
    cases this
theorem okL_bad {nn L F n : Nat} (h : okL nn L F) (hn : n < nn) : okL nn (L ||| 2 ^ n) (F ||| 2 ^ n) := by
  refine ⟨Nat.or_lt_two_pow h.1 (Nat.pow_lt_pow_right (by omega) hn), fun j hj => ?_⟩
  rw [tb_or2] at hj ⊢
  rcases Bool.or_eq_true_iff.mp hj with e | e
  · rw [h.2 j e]; rfl
  · rw [e, Bool.or_true]
theorem okL_good {nn L F n : Nat} (h : okL nn L F) (hn : n < nn) : okL nn (L ||| 2 ^ n) F := by
  refine ⟨Nat.or_lt_two_pow h.1 (Nat.pow_lt_pow_right (by omega) hn), fun j hj => ?_⟩
  rw [tb_or2, h.2 j hj]
  rfl
/-- the way of probes of fault i: what is left in the end, and how many probes more -/
def lrN (bb : Nat → Nat) (nf nn i : Nat) : Nat → Nat → Nat → Nat × Nat
  | 0, L, F => (cntN bb nf L F, 0)
  | d + 1, L, F => match nxN bb nf nn L F with
    | none => (cntN bb nf L F, 0)
    | some n => ((lrN bb nf nn i d (L ||| 2 ^ n) (F ||| (bb i &&& 2 ^ n))).1, (lrN bb nf nn i d (L ||| 2 ^ n) (F ||| (bb i &&& 2 ^ n))).2 + 1)
def restN (bb : Nat → Nat) (nf nn L F i : Nat) : Nat := (lrN bb nf nn i (unL nn L) L F).1
def stepsN (bb : Nat → Nat) (nf nn L F i : Nat) : Nat := (lrN bb nf nn i (unL nn L) L F).2
theorem lrN_none {bb : Nat → Nat} {nf nn i L F : Nat} (h : nxN bb nf nn L F = none) : ∀ d, lrN bb nf nn i d L F = (cntN bb nf L F, 0)
  | 0 => rfl
  | d + 1 => by unfold lrN; rw [h]
theorem lrN_some {bb : Nat → Nat} {nf nn i L F n : Nat} (h : nxN bb nf nn L F = some n) : lrN bb nf nn i (unL nn L) L F = ((lrN bb nf nn i (unL nn (L ||| 2 ^ n)) (L ||| 2 ^ n) (F ||| (bb i &&& 2 ^ n))).1, (lrN bb nf nn i (unL nn (L ||| 2 ^ n)) (L ||| 2 ^ n) (F ||| (bb i &&& 2 ^ n))).2 + 1) := by
  obtain ⟨h1, h2⟩ := nxS_some h
  rw [← unL_or h1 h2]
  conv => lhs; unfold lrN
  rw [h]
theorem lrN_le {bb : Nat → Nat} {nf nn i : Nat} : ∀ d L F, (lrN bb nf nn i d L F).1 ≤ nf ∧ (lrN bb nf nn i d L F).2 ≤ d
  | 0, L, F => ⟨fb_ct_le _ _, Nat.le_refl _⟩
  | d + 1, L, F => by
    unfold lrN
    split
    · exact ⟨fb_ct_le _ _, Nat.zero_le _⟩
    · rename_i n _
      have := @lrN_le bb nf nn i d (L ||| 2 ^ n) (F ||| (bb i &&& 2 ^ n))
      exact ⟨this.1, by have := this.2; show _ + 1 ≤ _; omega⟩
theorem and_2b {b n : Nat} : b &&& 2 ^ n = if b.testBit n then 2 ^ n else 0 := by
  apply Nat.eq_of_testBit_eq
  intro j
  rw [Nat.testBit_and, Nat.testBit_two_pow]
  by_cases e : n = j
  · subst e
    cases h : b.testBit n <;> simp
  · cases h : b.testBit n <;> simp [e]
/-- what a loop over those that fit gathers -/
def foN (g : Nat → Nat → Nat) (p : Nat → Bool) : Nat → Nat
  | 0 => 0
  | i + 1 => if p i then g (foN g p i) i else foN g p i
theorem foN_eq {g : Nat → Nat → Nat} {p : Nat → Bool} {i : Nat} : ∀ d, fb_ct p (i + d) = fb_ct p i → foN g p (i + d) = foN g p i
  | 0, _ => rfl
  | d + 1, h => by
    rw [show i + (d + 1) = i + d + 1 from rfl] at h ⊢
    rw [fb_ct_succ] at h
    have hm := fb_ct_step p i d
    rw [foN]
    cases hp : p (i + d) with
    | true => rw [hp] at h; simp at h; omega
    | false =>
      rw [hp] at h
      simp at h
      simp only [Bool.false_eq_true, if_false]
      exact foN_eq d h
