/-! masks -/
def msk (p : Nat → Bool) : Nat → Nat
  | 0 => 0
  | k + 1 => if p k then msk p k ||| 2 ^ k else msk p k
theorem msk_bit (p : Nat → Bool) : ∀ k j, (msk p k).testBit j = (decide (j < k) && p j)
  | 0, j => by simp [msk]
  | k + 1, j => by
    unfold msk
    have ih := msk_bit p k j
    by_cases hp : p k = true
    · rw [if_pos hp, Nat.testBit_or, ih, Nat.testBit_two_pow]
      by_cases e : j = k
      · subst e; simp [hp]
      · have e2 : ¬ k = j := fun q => e q.symm
        simp only [e2, decide_false, Bool.or_false]
        by_cases h : j < k
        · simp [h, show j < k + 1 by omega]
        · simp [h, show ¬ j < k + 1 by omega]
    · rw [if_neg hp, ih]
      by_cases e : j = k
      · subst e; simp [hp]
      · by_cases h : j < k
        · simp [h, show j < k + 1 by omega]
        · simp [h, show ¬ j < k + 1 by omega]
theorem msk_lt (p : Nat → Bool) (k : Nat) : msk p k < 2 ^ k := by
  apply Nat.lt_pow_two_of_testBit
  intro i hi
  rw [msk_bit]
  simp; omega
theorem msk_ext {p q : Nat → Bool} {k m : Nat} (h : ∀ j, (decide (j < k) && p j) = (decide (j < m) && q j)) : msk p k = msk q m := by
  apply Nat.eq_of_testBit_eq
  intro i
  rw [msk_bit, msk_bit]
  exact h i
theorem msk_z {p : Nat → Bool} {k : Nat} : msk p k = 0 ↔ ∀ j, j < k → p j = false := by
  constructor
  · intro h j hj
    have := msk_bit p k j
    rw [h] at this
    simp [hj] at this
    exact this
  · intro h
    apply Nat.eq_of_testBit_eq
    intro i
    rw [msk_bit]
    by_cases hi : i < k
    · simp [h i hi]
    · simp [hi]
/-! the faults of a board -/
def f1N (c : Nat) : Nat → List Nat
  | 0 => []
  | k + 1 => f1N c k ++ [c + 2 * k]
def f2N (b k : Nat) : Nat → List Nat
  | 0 => []
  | p + 1 => f2N b k p ++ [300 + 2 * k + p]
def f3N (B : gB) : Nat → List Nat
  | 0 => []
  | k + 1 => f3N B k ++ f2N 0 k (pinsN (bK B k))
def flN (B : gB) : List Nat := f1N 100 (bN B) ++ f1N 200 (bN B) ++ f3N B (bN B)
theorem f1N_len (c : Nat) : ∀ k, (f1N c k).length = k
  | 0 => rfl
  | k + 1 => by simp [f1N, f1N_len c k]
theorem f2N_len (b k : Nat) : ∀ p, (f2N b k p).length = p
  | 0 => rfl
  | p + 1 => by simp [f2N, f2N_len b k p]
theorem f3N_len {B : gB} (hB : okB B) : ∀ k, k ≤ bN B → (f3N B k).length + 2 * B.1 ≤ 2 * k ∨ (f3N B k).length = 0
  | 0, _ => Or.inr rfl
  | k + 1, hk => by
    have ih := f3N_len hB k (by omega)
    simp only [f3N, List.length_append, f2N_len]
    have hp := @pins_le (bK B k)
    by_cases h : k < B.1
    · rw [hB.2.2.2.2.1 k h, pinsN_0]
      rcases ih with e | e <;> omega
    · rcases ih with e | e <;> omega
theorem flN_len {B : gB} (hB : okB B) : (flN B).length ≤ 40 := by
  have h1 := f3N_len hB (bN B) (Nat.le_refl _)
  have h2 := hB.le
  have h3 := hB.1
  have h4 := hB.2.2.1
  simp only [flN, List.length_append, f1N_len]
  rcases h1 with e | e <;> omega
theorem f1N_mem {c x : Nat} : ∀ {k}, x ∈ f1N c k ↔ ∃ n, n < k ∧ x = c + 2 * n
  | 0 => by simp [f1N]
  | k + 1 => by
    simp only [f1N, List.mem_append, List.mem_singleton, f1N_mem (k := k)]
    constructor
    · rintro (⟨n, h1, h2⟩ | h)
      · exact ⟨n, by omega, h2⟩
      · exact ⟨k, by omega, h⟩
    · rintro ⟨n, h1, h2⟩
      by_cases e : n = k
      · subst e; exact Or.inr h2
      · exact Or.inl ⟨n, by omega, h2⟩
theorem f2N_mem {b k x : Nat} : ∀ {p}, x ∈ f2N b k p ↔ ∃ q, q < p ∧ x = 300 + 2 * k + q
  | 0 => by simp [f2N]
  | p + 1 => by
    simp only [f2N, List.mem_append, List.mem_singleton, f2N_mem (p := p)]
    constructor
    · rintro (⟨n, h1, h2⟩ | h)
      · exact ⟨n, by omega, h2⟩
      · exact ⟨p, by omega, h⟩
    · rintro ⟨n, h1, h2⟩
      by_cases e : n = p
      · subst e; exact Or.inr h2
      · exact Or.inl ⟨n, by omega, h2⟩
theorem f3N_mem {B : gB} {x : Nat} : ∀ {k}, x ∈ f3N B k ↔ ∃ n q, n < k ∧ q < pinsN (bK B n) ∧ x = 300 + 2 * n + q
  | 0 => by simp [f3N]
  | k + 1 => by
    simp only [f3N, List.mem_append, f3N_mem (k := k), f2N_mem]
    constructor
    · rintro (⟨n, q, h1, h2, h3⟩ | ⟨q, h1, h2⟩)
      · exact ⟨n, q, by omega, h2, h3⟩
      · exact ⟨k, q, by omega, h1, h2⟩
    · rintro ⟨n, q, h1, h2, h3⟩
      by_cases e : n = k
      · subst e; exact Or.inr ⟨q, h2, h3⟩
      · exact Or.inl ⟨n, q, by omega, h2, h3⟩
theorem okH_mem {B : gB} {h : Nat} : okH B h ↔ h = 0 ∨ h ∈ flN B := by
  unfold okH flN
  rw [List.mem_append, List.mem_append, f1N_mem, f1N_mem, f3N_mem]
  constructor
  · rintro (e | e | e | e)
    · exact Or.inl e
    · exact Or.inr (Or.inl (Or.inl e))
    · exact Or.inr (Or.inl (Or.inr e))
    · exact Or.inr (Or.inr e)
  · rintro (e | (e | e) | e)
    · exact Or.inl e
    · exact Or.inr (Or.inl e)
    · exact Or.inr (Or.inr (Or.inl e))
    · exact Or.inr (Or.inr (Or.inr e))
theorem pw_snoc {l : List Nat} {x : Nat} (h : l.Pairwise (· < ·)) (hx : ∀ y ∈ l, y < x) : (l ++ [x]).Pairwise (· < ·) := by
  rw [List.pairwise_append]
  exact ⟨h, List.pairwise_singleton _ _, fun a ha b hb => by rw [List.mem_singleton.mp hb]; exact hx a ha⟩
theorem f1N_pw (c : Nat) : ∀ k, (f1N c k).Pairwise (· < ·)
  | 0 => List.Pairwise.nil
  | k + 1 => pw_snoc (f1N_pw c k) (fun y hy => by obtain ⟨n, h1, h2⟩ := f1N_mem.mp hy; omega)
theorem f2N_pw (b k : Nat) : ∀ p, (f2N b k p).Pairwise (· < ·)
  | 0 => List.Pairwise.nil
  | p + 1 => pw_snoc (f2N_pw b k p) (fun y hy => by obtain ⟨n, h1, h2⟩ := f2N_mem.mp hy; omega)
theorem f3N_pw (B : gB) : ∀ k, (f3N B k).Pairwise (· < ·)
  | 0 => List.Pairwise.nil
  | k + 1 => by
    unfold f3N
    rw [List.pairwise_append]
    refine ⟨f3N_pw B k, f2N_pw 0 k _, fun a ha b hb => ?_⟩
    obtain ⟨n, q, h1, h2, h3⟩ := f3N_mem.mp ha
    obtain ⟨r, h4, h5⟩ := f2N_mem.mp hb
    have := @pins_le (bK B n)
    omega
theorem flN_pw {B : gB} (hB : okB B) : (flN B).Pairwise (· < ·) := by
  have h12 := hB.le
  unfold flN
  rw [List.pairwise_append, List.pairwise_append]
  refine ⟨⟨f1N_pw _ _, f1N_pw _ _, fun a ha b hb => ?_⟩, f3N_pw _ _, fun a ha b hb => ?_⟩
  · obtain ⟨n, h1, h2⟩ := f1N_mem.mp ha
    obtain ⟨m, h3, h4⟩ := f1N_mem.mp hb
    omega
  · obtain ⟨m, q, h3, h4, h5⟩ := f3N_mem.mp hb
    rcases List.mem_append.mp ha with e | e
    · obtain ⟨n, h1, h2⟩ := f1N_mem.mp e; omega
    · obtain ⟨n, h1, h2⟩ := f1N_mem.mp e; omega
theorem flN_get {B : gB} {i : Nat} (hi : i < (flN B).length) : (flN B).getD i 0 ∈ flN B := by
  rw [List.getD_eq_getElem?_getD, List.getElem?_eq_getElem hi]
  exact List.getElem_mem hi
theorem flN_lt {B : gB} (hB : okB B) {i : Nat} (hi : i < (flN B).length) : (flN B).getD i 0 < 400 := okH_lt hB (okH_mem.mpr (Or.inr (flN_get hi)))
theorem flN_inj {B : gB} (hB : okB B) {i j : Nat} (hi : i < (flN B).length) (hj : j < (flN B).length) (h : (flN B).getD i 0 = (flN B).getD j 0) : i = j := by
  rw [List.getD_eq_getElem?_getD, List.getElem?_eq_getElem hi, List.getD_eq_getElem?_getD, List.getElem?_eq_getElem hj] at h
  simp only [Option.getD_some] at h
  have key : ∀ {i j : Nat} (hi : i < (flN B).length) (hj : j < (flN B).length), i < j → (flN B)[i] < (flN B)[j] := fun hi hj hlt => List.pairwise_iff_getElem.mp (flN_pw hB) _ _ hi hj hlt
  rcases Nat.lt_trichotomy i j with q | q | q
  · have := key hi hj q; omega
  · exact q
  · have := key hj hi q; omega
/-- an array that holds a list -/
def lst (s : gp_S) (a : Nat) (c : Int32) (l : List Nat) : Prop := c = nI l.length ∧ ∀ i, i < l.length → s.1 a i = nI (l.getD i 0)
theorem getD_snoc {l : List Nat} {x i : Nat} (hi : i < (l ++ [x]).length) : (l ++ [x]).getD i 0 = if i = l.length then x else l.getD i 0 := by
  simp only [List.length_append, List.length_singleton] at hi
  rw [List.getD_eq_getElem?_getD, List.getD_eq_getElem?_getD]
  by_cases e : i = l.length
  · subst e; simp
  · rw [List.getElem?_append_left (by omega), if_neg e]
theorem lst.add {s : gp_S} {a x : Nat} {c : Int32} {l : List Nat} (h : lst s a c l) : ∀ s2 : gp_S, s2.1 a = (gp_ui s a l.length (nI x)).1 a → lst s2 a (c + 1) (l ++ [x]) := by
  intro s2 h2
  refine ⟨by rw [h.1, nI_1]; simp, fun i hi => ?_⟩
  rw [h2, ui_at, getD_snoc hi]
  by_cases e : i = l.length
  · rw [if_pos ⟨rfl, e⟩, if_pos e]
  · rw [if_neg (by omega), if_neg e]
    simp only [List.length_append, List.length_singleton] at hi
    exact h.2 i (by omega)
/-! first tick in which two histories differ -/
def fsN (o : Nat) : Nat → Nat → Option Nat
  | 0, _ => none
  | d + 1, t => if o.testBit t then some t else fsN o d (t + 1)
theorem fsN_lt {o : Nat} : ∀ {d t r : Nat}, fsN o d t = some r → t ≤ r ∧ r < t + d
  | 0, t, r, h => by cases h
  | d + 1, t, r, h => by
    unfold fsN at h
    split at h
    · cases h; omega
    · have := fsN_lt h; omega
theorem fsN_more {o T0 : Nat} (ho : o < 2 ^ T0) : ∀ (d t e : Nat), t + d = T0 → fsN o (d + e) t = fsN o d t
  | 0, t, e, h => by
    rw [Nat.zero_add]
    show fsN o e t = none
    have : ∀ e t, T0 ≤ t → fsN o e t = none := by
      intro e
      induction e with
      | zero => intro t _; rfl
      | succ e ih =>
        intro t ht
        unfold fsN
        rw [Nat.testBit_lt_two_pow (Nat.lt_of_lt_of_le ho (Nat.pow_le_pow_right (by omega) ht))]
        simp only [Bool.false_eq_true, if_false]
        exact ih (t + 1) (by omega)
    exact this e t (by omega)
  | d + 1, t, e, h => by
    rw [show d + 1 + e = d + e + 1 from by omega]
    unfold fsN
    rw [fsN_more ho d (t + 1) e (by omega)]
theorem fsN_z (d t : Nat) : fsN 0 d t = none := by
  induction d generalizing t with
  | zero => rfl
  | succ d ih => unfold fsN; simp [ih]
