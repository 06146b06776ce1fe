/-! boards (inputs, nodes, kinds, drivers), stimuli (ticks, figures), values tick by tick -/
abbrev gB : Type := Nat × Nat × (Nat → Nat) × (Nat → Nat)
abbrev gT : Type := Nat × (Nat → Nat)
abbrev bN (B : gB) : Nat := B.2.1
abbrev bK (B : gB) : Nat → Nat := B.2.2.1
abbrev bD (B : gB) : Nat → Nat := B.2.2.2
def okB (B : gB) : Prop := B.1 ≤ 4 ∧ B.1 ≤ bN B ∧ bN B ≤ B.1 + 8 ∧ (∀ n, n < bN B → bK B n ≤ 5) ∧ (∀ n, n < B.1 → bK B n = 0) ∧ (∀ n p, n < bN B → p < pinsN (bK B n) → bD B (2 * n + p) < bN B ∧ (bD B (2 * n + p) < n ∨ bK B n = 5 ∨ bK B (bD B (2 * n + p)) = 5))
theorem okB.le {B : gB} (h : okB B) : bN B ≤ 12 := by have h1 := h.1; have h2 := h.2.2.1; omega
def okT (T : gT) : Prop := T.1 ≤ 16 ∧ ∀ t, t < T.1 → T.2 t < 16
def bX (B : gB) (s : gp_S) : Prop := s.1 3 2 = nI B.1 ∧ s.1 3 3 = nI (bN B) ∧ (∀ n, n < bN B → s.1 4 n = nI (bK B n)) ∧ (∀ n p, n < bN B → p < pinsN (bK B n) → s.1 5 (2 * n + p) = nI (bD B (2 * n + p)))
def bM (B : gB) (s : gp_S) : Prop := s.1 34 2 = nI B.1 ∧ s.1 34 3 = nI (bN B) ∧ (∀ n, n < bN B → s.1 36 n = nI (bK B n)) ∧ (∀ n p, n < bN B → p < 2 → s.1 37 (2 * n + p) = if p < pinsN (bK B n) then nI (bD B (2 * n + p)) else -1)
def tX (T : gT) (s : gp_S) : Prop := s.1 9 1 = nI T.1 ∧ ∀ t, t < T.1 → s.1 10 t = nI (T.2 t)
def tM (T : gT) (s : gp_S) : Prop := s.1 34 6 = nI T.1 ∧ ∀ t, t < T.1 → s.1 38 t = nI (T.2 t)
def okH (B : gB) (h : Nat) : Prop := h = 0 ∨ (∃ n, n < bN B ∧ h = 100 + 2 * n) ∨ (∃ n, n < bN B ∧ h = 200 + 2 * n) ∨ (∃ n p, n < bN B ∧ p < pinsN (bK B n) ∧ h = 300 + 2 * n + p)
def bitN (a t : Nat) : Nat := if a.testBit t then 1 else 0
theorem bitN_le (a t : Nat) : bitN a t ≤ 1 := by unfold bitN; split <;> omega
def pvN (B : gB) (h : Nat) (v : Nat → Nat) (n p : Nat) : Nat := if h = 300 + 2 * n + p then 1 else v (bD B (2 * n + p))
def nvN (B : gB) (T : gT) (h t : Nat) (a v : Nat → Nat) (n : Nat) : Nat :=
  if h = 100 + 2 * n then 0 else if h = 200 + 2 * n then 1
  else if bK B n = 0 then bitN (T.2 t) n
  else if bK B n = 1 then pvN B h v n 0 &&& pvN B h v n 1
  else if bK B n = 2 then pvN B h v n 0 ||| pvN B h v n 1
  else if bK B n = 3 then pvN B h v n 0 ^^^ pvN B h v n 1
  else if bK B n = 4 then 1 - pvN B h v n 0
  else if t = 0 then 0 else pvN B h a n 0
def psN (d : Bool) (B : gB) (T : gT) (h t : Nat) (a : Nat → Nat) : Nat → (Nat → Nat) → Nat → Nat
  | 0, v => v
  | k + 1, v => if (bK B k = 5) = (d = true) then va_up (psN d B T h t a k v) k (nvN B T h t a (psN d B T h t a k v) k) else psN d B T h t a k v
def tickN (B : gB) (T : gT) (h t : Nat) (v : Nat → Nat) : Nat → Nat := psN false B T h t v (bN B) (psN true B T h t v (bN B) v)
def runN (B : gB) (T : gT) (h : Nat) (v : Nat → Nat) : Nat → Nat → Nat
  | 0 => v
  | t + 1 => tickN B T h t (runN B T h v t)
def okV (v : Nat → Nat) : Prop := ∀ n, n < 12 → v n ≤ 1
theorem pins_le {k : Nat} : pinsN k ≤ 2 := by
  unfold pinsN
  split
  · omega
  · split <;> omega
theorem pinsN_k {k : Nat} (h0 : k ≠ 0) : 0 < pinsN k := by have := @pinsN_pos k (by omega); omega
theorem pinsN_2 {k : Nat} (h0 : k ≠ 0) (h : k < 4) : pinsN k = 2 := by unfold pinsN; rw [if_neg h0, if_pos h]
theorem pinsN_1 {k : Nat} (h : 4 ≤ k) : pinsN k = 1 := by unfold pinsN; rw [if_neg (by omega), if_neg (by omega)]
theorem pvN_le {B : gB} {h n p : Nat} {v : Nat → Nat} (hB : okB B) (hv : okV v) (hn : n < bN B) (hp : p < pinsN (bK B n)) : pvN B h v n p ≤ 1 := by
  unfold pvN
  split
  · omega
  · have := hB.le
    exact hv _ (by have := (hB.2.2.2.2.2 n p hn hp).1; omega)
theorem bit_ops {a b : Nat} (ha : a ≤ 1) (hb : b ≤ 1) : a &&& b ≤ 1 ∧ a ||| b ≤ 1 ∧ a ^^^ b ≤ 1 := by
  rcases (show a = 0 ∨ a = 1 by omega) with rfl | rfl <;> rcases (show b = 0 ∨ b = 1 by omega) with rfl | rfl <;> decide
theorem nvN_le {B : gB} {T : gT} {h t n : Nat} {a v : Nat → Nat} (hB : okB B) (hv : okV v) (ha : okV a) (hn : n < bN B) : nvN B T h t a v n ≤ 1 := by
  unfold nvN
  split
  · omega
  split
  · omega
  split
  · exact bitN_le _ _
  rename_i k0
  split
  · rename_i k1
    have e := pinsN_2 (k := bK B n) (by omega) (by omega)
    exact (bit_ops (pvN_le hB hv hn (by omega)) (pvN_le hB hv hn (by omega))).1
  split
  · rename_i k1
    have e := pinsN_2 (k := bK B n) (by omega) (by omega)
    exact (bit_ops (pvN_le hB hv hn (by omega)) (pvN_le hB hv hn (by omega))).2.1
  split
  · rename_i k1
    have e := pinsN_2 (k := bK B n) (by omega) (by omega)
    exact (bit_ops (pvN_le hB hv hn (by omega)) (pvN_le hB hv hn (by omega))).2.2
  split
  · omega
  split
  · omega
  · exact pvN_le hB ha hn (pinsN_k k0)
theorem va_up_ok {v : Nat → Nat} {k x : Nat} (hv : okV v) (hx : x ≤ 1) : okV (va_up v k x) := by
  intro n hn
  unfold va_up
  split
  · exact hx
  · exact hv n hn
theorem psN_ok {d : Bool} {B : gB} {T : gT} {h t : Nat} {a : Nat → Nat} (hB : okB B) (ha : okV a) : ∀ {k : Nat} {v : Nat → Nat}, k ≤ bN B → okV v → okV (psN d B T h t a k v)
  | 0, _, _, hv => hv
  | k + 1, v, hk, hv => by
    have ih := psN_ok (d := d) (T := T) (h := h) (t := t) hB ha (k := k) (by omega) hv
    unfold psN
    split
    · exact va_up_ok ih (nvN_le hB ih ha (by omega))
    · exact ih
theorem tickN_ok {B : gB} {T : gT} {h t : Nat} {v : Nat → Nat} (hB : okB B) (hv : okV v) : okV (tickN B T h t v) := psN_ok hB hv (Nat.le_refl _) (psN_ok hB hv (Nat.le_refl _) hv)
theorem runN_ok {B : gB} {T : gT} {h : Nat} {v : Nat → Nat} (hB : okB B) (hv : okV v) : ∀ t, okV (runN B T h v t)
  | 0 => hv
  | t + 1 => tickN_ok hB (runN_ok hB hv t)
/-- two runs that differ only in what they began with, and what stands at places that are no nodes -/
def agr (n : Nat) (v w : Nat → Nat) : Prop := ∀ k, k < n → v k = w k
theorem nvN_D {B : gB} {T : gT} {h t n : Nat} {a a' v v' : Nat → Nat} (hB : okB B) (hn : n < bN B) (hk : bK B n = 5) (ha : t ≠ 0 → agr (bN B) a a') : nvN B T h t a v n = nvN B T h t a' v' n := by
  unfold nvN
  have h5 : pinsN (bK B n) = 1 := pinsN_1 (by omega)
  simp only [hk]
  simp only [show (5 : Nat) ≠ 0 by decide, show (5 : Nat) ≠ 1 by decide, show (5 : Nat) ≠ 2 by decide, show (5 : Nat) ≠ 3 by decide, show (5 : Nat) ≠ 4 by decide, if_false]
  by_cases ht : t = 0
  · simp [ht]
  · simp only [ht, if_false]
    unfold pvN
    rw [ha ht _ (hB.2.2.2.2.2 n 0 hn (by omega)).1]
theorem nvN_N {B : gB} {T : gT} {h t n : Nat} {a a' v v' : Nat → Nat} (hB : okB B) (hn : n < bN B) (hk : bK B n ≠ 5) (hv : ∀ j, j < bN B → (bK B j = 5 ∨ j < n) → v j = v' j) : nvN B T h t a v n = nvN B T h t a' v' n := by
  have h5 := hB.2.2.2.1 n hn
  have key : ∀ p, p < pinsN (bK B n) → pvN B h v n p = pvN B h v' n p := by
    intro p hp
    obtain ⟨d1, d2⟩ := hB.2.2.2.2.2 n p hn hp
    unfold pvN
    rw [hv _ d1 (by rcases d2 with e | e | e; exact Or.inr e; exact absurd e hk; exact Or.inl e)]
  unfold nvN
  by_cases e0 : bK B n = 0
  · simp [e0]
  by_cases e4 : bK B n < 4
  · have := pinsN_2 e0 e4
    rw [key 0 (by omega), key 1 (by omega)]
    simp only [if_neg e0]
    rcases (show bK B n = 1 ∨ bK B n = 2 ∨ bK B n = 3 by omega) with e | e | e <;> simp [e]
  · have := pinsN_1 (k := bK B n) (by omega)
    rw [key 0 (by omega)]
    have e : bK B n = 4 := by omega
    simp [e]
theorem psN_out {d : Bool} {B : gB} {T : gT} {h t : Nat} {a : Nat → Nat} : ∀ {k : Nat} {v : Nat → Nat} {j : Nat}, (k ≤ j ∨ ¬ ((bK B j = 5) = (d = true))) → psN d B T h t a k v j = v j
  | 0, _, _, _ => rfl
  | k + 1, v, j, hj => by
    have ih := @psN_out d B T h t a k v j (by rcases hj with e | e; exact Or.inl (by omega); exact Or.inr e)
    unfold psN
    split
    · rename_i hk
      have : j ≠ k := by
        rintro rfl
        rcases hj with e | e
        · omega
        · exact e hk
      simp only [va_up, this, if_false]
      exact ih
    · exact ih
theorem psN_D {B : gB} {T : gT} {h t : Nat} {a a' : Nat → Nat} (hB : okB B) (ha : t ≠ 0 → agr (bN B) a a') : ∀ {k : Nat} {v v' : Nat → Nat}, k ≤ bN B → ∀ j, j < k → bK B j = 5 → psN true B T h t a k v j = psN true B T h t a' k v' j
  | 0, _, _, _, j, hj, _ => absurd hj (Nat.not_lt_zero j)
  | k + 1, v, v', hk, j, hj, h5 => by
    unfold psN
    by_cases e : j = k
    · subst e
      simp only [h5]
      simp only [va_up, if_true]
      exact nvN_D hB (by omega) h5 ha
    · have ih := psN_D (T := T) (h := h) hB ha (k := k) (v := v) (v' := v') (by omega) j (by omega) h5
      split
      · simp only [va_up, e, if_false]; exact ih
      · exact ih
theorem psN_N {B : gB} {T : gT} {h t : Nat} {a a' : Nat → Nat} (hB : okB B) : ∀ {k : Nat} {v v' : Nat → Nat}, k ≤ bN B → (∀ j, j < bN B → bK B j = 5 → v j = v' j) → ∀ j, j < bN B → (bK B j = 5 ∨ j < k) → psN false B T h t a k v j = psN false B T h t a' k v' j
  | 0, _, _, _, hv, j, hj, h5 => by
    rcases h5 with e | e
    · exact hv j hj e
    · exact absurd e (Nat.not_lt_zero j)
  | k + 1, v, v', hk, hv, j, hj, h5 => by
    have ih := fun j h1 h2 => psN_N (T := T) (h := h) (t := t) (a := a) (a' := a') hB (k := k) (by omega) hv j h1 h2
    unfold psN
    by_cases hk5 : bK B k = 5
    · simp only [hk5]
      simp only [true_iff, eq_iff_iff, Bool.false_eq_true, if_false]
      refine ih j hj ?_
      rcases h5 with e | e
      · exact Or.inl e
      · by_cases e2 : j = k
        · rw [e2]; exact Or.inl hk5
        · exact Or.inr (by omega)
    · simp only [hk5, Bool.false_eq_true, if_true]
      by_cases e : j = k
      · simp only [va_up, e, if_true]
        exact nvN_N hB (by omega) hk5 ih
      · simp only [va_up, e, if_false]
        exact ih j hj (by rcases h5 with e2 | e2; exact Or.inl e2; exact Or.inr (by omega))
theorem tickN_agr {B : gB} {T : gT} {h t : Nat} {v v' : Nat → Nat} (hB : okB B) (ha : t ≠ 0 → agr (bN B) v v') : agr (bN B) (tickN B T h t v) (tickN B T h t v') := by
  intro j hj
  unfold tickN
  refine psN_N hB (Nat.le_refl _) (fun i hi h5 => psN_D hB ha (Nat.le_refl _) i hi h5) j hj (Or.inr hj)
theorem runN_agr {B : gB} {T : gT} {h : Nat} {v v' : Nat → Nat} (hB : okB B) : ∀ t, agr (bN B) (runN B T h v (t + 1)) (runN B T h v' (t + 1))
  | 0 => tickN_agr hB (fun q => absurd rfl q)
  | t + 1 => tickN_agr hB (fun _ => runN_agr hB t)
/-- what a node has in a tick; its history and its mark after some ticks -/
def valN (B : gB) (T : gT) (h t n : Nat) : Nat := runN B T h (fun _ => 0) (t + 1) n
def hisN (B : gB) (T : gT) (h : Nat) : Nat → Nat → Nat
  | 0, _ => 0
  | t + 1, n => hisN B T h t n ||| valN B T h t n * 2 ^ t
def mst (m b : Nat) : Nat := ((2 * m + b) ^^^ (if m < 128 then 0 else 29)) &&& 255
def mrkN (B : gB) (T : gT) (h : Nat) : Nat → Nat → Nat
  | 0, _ => 0
  | t + 1, n => mst (mrkN B T h t n) (valN B T h t n)
theorem valN_le {B : gB} {T : gT} {h t n : Nat} (hB : okB B) (hn : n < 12) : valN B T h t n ≤ 1 := runN_ok hB (fun _ _ => Nat.zero_le _) (t + 1) n hn
theorem hisN_lt {B : gB} {T : gT} {h n : Nat} (hB : okB B) (hn : n < 12) : ∀ t, hisN B T h t n < 2 ^ t
  | 0 => by simp [hisN]
  | t + 1 => by
    have ih := @hisN_lt B T h n hB hn t
    have hv := @valN_le B T h t n hB hn
    unfold hisN
    apply Nat.or_lt_two_pow
    · exact Nat.lt_of_lt_of_le ih (Nat.pow_le_pow_right (by omega) (by omega))
    · rw [Nat.pow_succ]
      have := Nat.two_pow_pos t
      have : valN B T h t n * 2 ^ t ≤ 1 * 2 ^ t := Nat.mul_le_mul_right _ hv
      omega
theorem hisN_bit {B : gB} {T : gT} {h n : Nat} (hB : okB B) (hn : n < 12) : ∀ t j, j < t → bitN (hisN B T h t n) j = valN B T h j n
  | 0, j, hj => absurd hj (Nat.not_lt_zero j)
  | t + 1, j, hj => by
    have hl := @hisN_lt B T h n hB hn t
    have hv := @valN_le B T h t n hB hn
    unfold hisN bitN
    rw [Nat.testBit_or]
    by_cases e : j = t
    · subst e
      rw [Nat.testBit_lt_two_pow hl, Bool.false_or]
      rcases (show valN B T h j n = 0 ∨ valN B T h j n = 1 by omega) with e | e
      · rw [e]; simp
      · rw [e, Nat.one_mul, Nat.testBit_two_pow_self]; simp
    · have ih := hisN_bit (T := T) (h := h) hB hn t j (by omega)
      unfold bitN at ih
      have : (valN B T h t n * 2 ^ t).testBit j = false := by
        rcases (show valN B T h t n = 0 ∨ valN B T h t n = 1 by omega) with e2 | e2
        · rw [e2]; simp
        · rw [e2, Nat.one_mul, Nat.testBit_two_pow]; simp; omega
      rw [this, Bool.or_false]
      exact ih
theorem mst_lt (m b : Nat) : mst m b < 256 := by
  unfold mst
  have := Nat.and_le_right (n := (2 * m + b) ^^^ (if m < 128 then 0 else 29)) (m := 255)
  omega
theorem mrkN_lt {B : gB} {T : gT} {h n : Nat} : ∀ t, mrkN B T h t n < 256
  | 0 => by simp [mrkN]
  | t + 1 => mst_lt _ _
/-- the mark of a history -/
def mrkH (H : Nat) : Nat → Nat
  | 0 => 0
  | t + 1 => mst (mrkH H t) (bitN H t)
theorem mrkH_lt (H : Nat) : ∀ t, mrkH H t < 256
  | 0 => by simp [mrkH]
  | t + 1 => mst_lt _ _
theorem mrkN_H {B : gB} {T : gT} {h n T0 : Nat} (hB : okB B) (hn : n < 12) : ∀ t, t ≤ T0 → mrkH (hisN B T h T0 n) t = mrkN B T h t n
  | 0, _ => rfl
  | t + 1, ht => by
    unfold mrkH mrkN
    rw [mrkN_H hB hn t (by omega), hisN_bit hB hn T0 t (by omega)]
theorem mst_I {m b : Nat} (hm : m < 256) (hb : b ≤ 1) : ((2 * nI m + nI b) ^^^ (if m < 128 then 0 else 29)) &&& 255 = nI (mst m b) := by
  rw [mulI (b := 2), nI_add, show (if m < 128 then (0 : Int32) else 29) = nI (if m < 128 then 0 else 29) from by split <;> rfl, fb_xorI, show (255 : Int32) = nI 255 from rfl, bI_and]
  rfl
