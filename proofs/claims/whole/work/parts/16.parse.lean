def fm (P : Nat → Nat → Bool) (s s' : gp_S) : Prop := ∀ a k, P a k = false → s'.1 a k = s.1 a k ∧ s'.2 a k = s.2 a k
theorem fm_rfl {P : Nat → Nat → Bool} {s : gp_S} : fm P s s := fun _ _ _ => ⟨rfl, rfl⟩
theorem fm.trans {P : Nat → Nat → Bool} {s s1 s2 : gp_S} (h1 : fm P s s1) (h2 : fm P s1 s2) : fm P s s2 := fun a k h => ⟨(h2 a k h).1.trans (h1 a k h).1, (h2 a k h).2.trans (h1 a k h).2⟩
theorem fm.mono {P Q : Nat → Nat → Bool} {s s' : gp_S} (h : fm P s s') (hl : ∀ a k, Q a k = false → P a k = false) : fm Q s s' := fun a k q => h a k (hl a k q)
theorem fm.i {P : Nat → Nat → Bool} {s s' : gp_S} (h : fm P s s') (a k : Nat) (hp : P a k = false := by rfl) : s'.1 a k = s.1 a k := (h a k hp).1
theorem fm.j {P : Nat → Nat → Bool} {s s' : gp_S} (h : fm P s s') (a k : Nat) (hp : P a k = false := by rfl) : s'.2 a k = s.2 a k := (h a k hp).2
theorem fm.ui {P : Nat → Nat → Bool} {s s1 : gp_S} (h : fm P s s1) (a k : Nat) (v : Int32) (hp : P a k = true := by rfl) : fm P s (gp_ui s1 a k v) := by
  intro b j hq
  refine ⟨?_, (h b j hq).2⟩
  rw [ui_at, if_neg (fun e => by rw [e.1, e.2, hp] at hq; cases hq)]
  exact (h b j hq).1
theorem fm.uj {P : Nat → Nat → Bool} {s s1 : gp_S} (h : fm P s s1) (a k : Nat) (v : Int64) (hp : P a k = true := by rfl) : fm P s (gp_uj s1 a k v) := by
  intro b j hq
  refine ⟨(h b j hq).1, ?_⟩
  rw [uj_at, if_neg (fun e => by rw [e.1, e.2, hp] at hq; cases hq)]
  exact (h b j hq).2
theorem fm.fr {P : Nat → Nat → Bool} {s s1 s2 : gp_S} {a : Nat} (h : fm P s s1) (h2 : fr [a] s1 s2) (hp : ∀ k, P a k = true := by intro k; rfl) : fm P s s2 := by
  intro b j hq
  have hb : b ∉ [a] := fun q => by
    rw [List.mem_singleton.mp q, hp j] at hq
    cases hq
  exact ⟨by rw [(h2 b hb).1]; exact (h b j hq).1, by rw [(h2 b hb).2]; exact (h b j hq).2⟩
theorem pk_ne {x y : Int32} {A B : Prop} (a b : Nat) (g : a ≠ b → B) (f : a = b → A) (hx : x = nI a := by rfl) (hy : y = nI b := by rfl) (ha : a < 2 ^ 31 := by omega) (hb : b < 2 ^ 31 := by omega) : (¬ x = y → B) ∧ (x = y → A) := (pk_eq a b f g hx hy ha hb).symm
/-! letters -/
def figN (c : Nat) : Option Nat := if 48 ≤ c ∧ c ≤ 57 then some (c - 48) else if 97 ≤ c ∧ c ≤ 102 then some (c - 87) else none
def kindN (c : Nat) : Nat := if c = 65 then 1 else if c = 79 then 2 else if c = 88 then 3 else if c = 78 then 4 else if c = 68 then 5 else 0
def pinsN (k : Nat) : Nat := if k = 0 then 0 else if k < 4 then 2 else 1
def figI (o : Option Nat) : Int32 := match o with
  | some v => nI v
  | none => -1
def kindI (k : Nat) : Int32 := if k = 0 then -1 else nI k
theorem figN_lt {c v : Nat} (h : figN c = some v) : v < 16 := by
  unfold figN at h
  split at h
  · cases h; omega
  · split at h
    · cases h; omega
    · cases h
theorem figN_d {c : Nat} (h1 : 48 ≤ c) (h2 : c ≤ 57) : figN c = some (c - 48) := by unfold figN; rw [if_pos ⟨h1, h2⟩]
theorem figN_a {c : Nat} (h1 : 97 ≤ c) (h2 : c ≤ 102) : figN c = some (c - 87) := by unfold figN; rw [if_neg (by omega), if_pos ⟨h1, h2⟩]
theorem figN_n {c : Nat} (h1 : ¬ (48 ≤ c ∧ c ≤ 57)) (h2 : ¬ (97 ≤ c ∧ c ≤ 102)) : figN c = none := by unfold figN; rw [if_neg h1, if_neg h2]
theorem subI {c b : Nat} (h : b ≤ c) {y : Int32} (hy : y = nI b := by rfl) : nI c - y = nI (c - b) := by subst hy; exact pk_sub h
theorem addI {c b : Nat} {y : Int32} (hy : y = nI b := by rfl) : nI c + y = nI (c + b) := by subst hy; exact nI_add c b
theorem mulI {c b : Nat} {y : Int32} (hy : y = nI b := by rfl) : y * nI c = nI (b * c) := by subst hy; exact pk_mul b c
theorem figA {c : Nat} (h : 97 ≤ c) : nI c - 97 + 10 = nI (c - 87) := by
  rw [subI h, addI, show c - 97 + 10 = c - 87 from by omega]
theorem sp_figX {G : gp_G} {N c : Nat} {f : Int32 → gp_S → Prop} {s : gp_S} (hc : c < 127) (h : f (figI (figN c)) s) : cl_X9_figure G N (nI c) f s := by
  refine sg_X9_figure _ ?_
  refine pk_lt c 48 (fun h1 => pk_lt c 97 (fun h2 => ?_) (fun h2 => absurd h1 (by omega))) (fun h1 => pk_lt 57 c (fun h2 => pk_lt c 97 (fun h3 => ?_) (fun h3 => pk_lt 102 c (fun h4 => ?_) (fun h4 => ?_))) (fun h2 => ?_))
  · rwa [figN_n (by omega) (by omega)] at h
  · rwa [figN_n (by omega) (by omega)] at h
  · rwa [figN_n (by omega) (by omega)] at h
  · rw [figN_a h3 (by omega)] at h
    rw [figA h3]
    exact h
  · rw [figN_d h1 (by omega)] at h
    rw [subI h1]
    exact h
theorem kindI_of {c : Nat} : (c = 65 ∧ kindN c = 1) ∨ (c = 79 ∧ kindN c = 2) ∨ (c = 88 ∧ kindN c = 3) ∨ (c = 78 ∧ kindN c = 4) ∨ (c = 68 ∧ kindN c = 5) ∨ (kindN c = 0 ∧ c ≠ 65 ∧ c ≠ 79 ∧ c ≠ 88 ∧ c ≠ 78 ∧ c ≠ 68) := by
  unfold kindN
  by_cases h1 : c = 65
  · simp [h1]
  by_cases h2 : c = 79
  · simp [h2]
  by_cases h3 : c = 88
  · simp [h3]
  by_cases h4 : c = 78
  · simp [h4]
  by_cases h5 : c = 68
  · simp [h5]
  · simp [h1, h2, h3, h4, h5]
theorem kindN_le (c : Nat) : kindN c ≤ 5 := by
  rcases @kindI_of c with h | h | h | h | h | h <;> omega
theorem kind_vc {c : Nat} (hc : c < 127) {f : Int32 → gp_S → Prop} {s : gp_S} (h : f (kindI (kindN c)) s) : (nI c = 65 → f 1 s) ∧ (nI c = 68 → f 5 s) ∧ (nI c = 78 → f 4 s) ∧ (nI c = 79 → f 2 s) ∧ (nI c = 88 → f 3 s) ∧ (¬ nI c = 65 → ¬ nI c = 68 → ¬ nI c = 78 → ¬ nI c = 79 → ¬ nI c = 88 → f (-1) s) := by
  have e : ∀ b : Nat, b < 127 → (nI c = nI b ↔ c = b) := fun b hb => nI_eq (by omega) (by omega)
  rw [show (65 : Int32) = nI 65 from rfl, show (68 : Int32) = nI 68 from rfl, show (78 : Int32) = nI 78 from rfl, show (79 : Int32) = nI 79 from rfl, show (88 : Int32) = nI 88 from rfl, e 65 (by omega), e 68 (by omega), e 78 (by omega), e 79 (by omega), e 88 (by omega)]
  rcases @kindI_of c with q | q | q | q | q | q <;> (rw [show kindN c = _ from by first | exact q.2 | exact q.1] at h) <;> refine ⟨fun z => ?_, fun z => ?_, fun z => ?_, fun z => ?_, fun z => ?_, fun z1 z2 z3 z4 z5 => ?_⟩ <;> first | exact h | (exfalso; omega)
theorem sp_kindX {G : gp_G} {N c : Nat} {f : Int32 → gp_S → Prop} {s : gp_S} (hc : c < 127) (h : f (kindI (kindN c)) s) : cl_X0_kindOf G N (nI c) f s := sg_X0_kindOf _ (kind_vc hc h)
theorem sp_kindM {G : gp_G} {N c : Nat} {f : Int32 → gp_S → Prop} {s : gp_S} (hc : c < 127) (h : f (kindI (kindN c)) s) : cl_X10_kindBy G N (nI c) f s := sg_X10_kindBy _ (kind_vc hc h)
theorem pinsN_0 : pinsN 0 = 0 := rfl
theorem sp_pinsM {G : gp_G} {N k : Nat} {f : Int32 → gp_S → Prop} {s : gp_S} (hk : k ≤ 5) (h : f (nI (pinsN k)) s) : cl_X10_pinsOf G N (nI k) f s := by
  refine sg_X10_pinsOf _ (pk_ne k 0 (fun h1 => pk_le 4 k (fun h2 => ?_) (fun h2 => ?_)) (fun h1 => ?_))
  · rw [show pinsN k = 1 from by unfold pinsN; rw [if_neg h1, if_neg (by omega)]] at h
    exact h
  · rw [show pinsN k = 2 from by unfold pinsN; rw [if_neg h1, if_pos (by omega)]] at h
    exact h
  · rw [show pinsN k = 0 from by unfold pinsN; rw [if_pos h1]] at h
    exact h
theorem pins_vc {k : Nat} (hk : k ≤ 5) {f : Int32 → gp_S → Prop} {s : gp_S} (h : f (nI (pinsN k)) s) : (nI k = 0 → f 0 s) ∧ (nI k = 4 → f 1 s) ∧ (nI k = 5 → f 1 s) ∧ (¬ nI k = 0 → ¬ nI k = 4 → ¬ nI k = 5 → f 2 s) := by
  rcases (show k = 0 ∨ k = 1 ∨ k = 2 ∨ k = 3 ∨ k = 4 ∨ k = 5 by omega) with rfl | rfl | rfl | rfl | rfl | rfl <;> exact ⟨fun z => by first | exact h | exact absurd z (by decide), fun z => by first | exact h | exact absurd z (by decide), fun z => by first | exact h | exact absurd z (by decide), fun z1 z2 z3 => by first | exact absurd rfl z1 | exact absurd rfl z2 | exact absurd rfl z3 | exact h⟩
theorem sp_pinsD {G : gp_G} {N n k : Nat} {f : Int32 → gp_S → Prop} {s : gp_S} (hn : n < 12) (hk : k ≤ 5) (hs : s.1 7 n = nI k) (h : f (nI (pinsN k)) s) : cl_X0_pins_o6 G N (nI n) f s := by
  refine sg_X0_pins_o6 _ ⟨vp_in_nI hn (by omega), ?_⟩
  rw [nI_clamp (by omega), hs]
  exact pins_vc hk h
theorem sp_pinsW {G : gp_G} {N n k : Nat} {f : Int32 → gp_S → Prop} {s : gp_S} (hn : n < 12) (hk : k ≤ 5) (hs : s.1 4 n = nI k) (h : f (nI (pinsN k)) s) : cl_X0_pins_o3 G N (nI n) f s := by
  refine sg_X0_pins_o3 _ ⟨vp_in_nI hn (by omega), ?_⟩
  rw [nI_clamp (by omega), hs]
  exact pins_vc hk h
theorem sp_within {G : gp_G} {N a : Nat} (b c : Nat) {f : Int32 → gp_S → Prop} {s : gp_S} (ha : a < 2 ^ 31) (hb : b < 2 ^ 31) (hc : c < 2 ^ 31) (h : f (if b ≤ a ∧ a ≤ c then 1 else 0) s) {y z : Int32} (hy : y = nI b := by rfl) (hz : z = nI c := by rfl) : cl_X10_within G N (nI a) y z f s := by
  refine sg_X10_within _ _ _ (pk_lt a b (fun h1 => ?_) (fun h1 => pk_lt c a (fun h2 => ?_) (fun h2 => ?_) hz rfl) rfl hy)
  · rwa [if_neg (by omega)] at h
  · rwa [if_neg (by omega)] at h
  · rwa [if_pos ⟨h1, h2⟩] at h
def figB (o : Option Nat) (m : Nat) : Int32 := match o with
  | some v => if v < m then nI v else -1
  | none => -1
theorem sp_figM {G : gp_G} {N c m : Nat} {f : Int32 → gp_S → Prop} {s : gp_S} (hc : c < 127) (hm : m ≤ 16) (h : f (figB (figN c) m) s) {y : Int32} (hy : y = nI m := by rfl) : cl_X10_figure G (N + 1) (nI c) y f s := by
  subst hy
  refine sg_X10_figure _ _ (sp_within 48 57 (by omega) (by omega) (by omega) ?_)
  have hm1 : ¬ nI m ≤ (-1 : Int32) := by
    intro q
    have := Int32.le_iff_toInt_le.mp q
    rw [nI_toInt (by omega), show (-1 : Int32).toInt = -1 from by decide] at this
    omega
  by_cases h1 : 48 ≤ c ∧ c ≤ 57
  · rw [if_pos h1]
    refine ⟨fun q => absurd q (by decide), fun _ => ?_⟩
    rw [subI h1.1]
    rw [figN_d h1.1 h1.2] at h
    refine pk_le m (c - 48) (fun h2 => ?_) (fun h2 => ?_)
    · simp only [figB, if_neg (show ¬ c - 48 < m by omega)] at h
      exact h
    · simp only [figB, if_pos (show c - 48 < m by omega)] at h
      exact h
  · rw [if_neg h1]
    refine ⟨fun _ => sp_within 97 122 (by omega) (by omega) (by omega) ?_, fun q => absurd rfl q⟩
    by_cases h2 : 97 ≤ c ∧ c ≤ 122
    · rw [if_pos h2]
      refine ⟨fun q => absurd q (by decide), fun _ => ?_⟩
      rw [figA h2.1]
      by_cases h3 : c ≤ 102
      · rw [figN_a h2.1 h3] at h
        refine pk_le m (c - 87) (fun h4 => ?_) (fun h4 => ?_)
        · simp only [figB, if_neg (show ¬ c - 87 < m by omega)] at h
          exact h
        · simp only [figB, if_pos (show c - 87 < m by omega)] at h
          exact h
      · rw [figN_n h1 (by omega)] at h
        exact pk_le m (c - 87) (fun _ => h) (fun h4 => absurd h4 (by omega))
    · rw [if_neg h2]
      rw [figN_n h1 (by omega)] at h
      exact ⟨fun _ => ⟨fun q => absurd q hm1, fun _ => h⟩, fun q => absurd rfl q⟩
