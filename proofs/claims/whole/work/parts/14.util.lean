def fr (l : List Nat) (s s' : gp_S) : Prop := ∀ a, a ∉ l → s'.1 a = s.1 a ∧ s'.2 a = s.2 a
theorem fr_rfl {l : List Nat} {s : gp_S} : fr l s s := fun _ _ => ⟨rfl, rfl⟩
theorem fr.trans {l : List Nat} {s s1 s2 : gp_S} (h1 : fr l s s1) (h2 : fr l s1 s2) : fr l s s2 := fun a ha => ⟨(h2 a ha).1.trans (h1 a ha).1, (h2 a ha).2.trans (h1 a ha).2⟩
theorem fr.mono {l l2 : List Nat} {s s' : gp_S} (h : fr l s s') (hl : ∀ a ∈ l, a ∈ l2) : fr l2 s s' := fun a ha => h a (fun q => ha (hl a q))
theorem fr.i {l : List Nat} {s s' : gp_S} (h : fr l s s') (a : Nat) (ha : a ∉ l := by decide) : s'.1 a = s.1 a := (h a ha).1
theorem fr.j {l : List Nat} {s s' : gp_S} (h : fr l s s') (a : Nat) (ha : a ∉ l := by decide) : s'.2 a = s.2 a := (h a ha).2
theorem fr.ui {l : List Nat} {s s1 : gp_S} (h : fr l s s1) {a : Nat} (k : Nat) (v : Int32) (ha : a ∈ l := by decide) : fr l s (gp_ui s1 a k v) := fun b hb => ⟨by rw [gp_ui_ne s1 k v (fun e => hb (by rw [e]; exact ha))]; exact (h b hb).1, (h b hb).2⟩
theorem fr.uj {l : List Nat} {s s1 : gp_S} (h : fr l s s1) {a : Nat} (k : Nat) (v : Int64) (ha : a ∈ l := by decide) : fr l s (gp_uj s1 a k v) := fun b hb => ⟨(h b hb).1, by rw [gp_uj_ne s1 k v (fun e => hb (by rw [e]; exact ha))]; exact (h b hb).2⟩
theorem fr.ua {l : List Nat} {s s1 : gp_S} (h : fr l s s1) {a : Nat} (g : Nat → Int32) (ha : a ∈ l := by decide) : fr l s (gp_ua s1 a g) := fun b hb => ⟨by
  have : b ≠ a := fun e => hb (by rw [e]; exact ha)
  simp only [gp_ua, this, if_false]
  exact (h b hb).1, (h b hb).2⟩
theorem ui_at (s : gp_S) (a k : Nat) (v : Int32) (b j : Nat) : (gp_ui s a k v).1 b j = if b = a ∧ j = k then v else s.1 b j := by
  unfold gp_ui
  by_cases hb : b = a
  · by_cases hj : j = k <;> simp [hb, hj, upd]
  · simp [hb]
theorem uj_at (s : gp_S) (a k : Nat) (v : Int64) (b j : Nat) : (gp_uj s a k v).2 b j = if b = a ∧ j = k then v else s.2 b j := by
  unfold gp_uj
  by_cases hb : b = a
  · by_cases hj : j = k <;> simp [hb, hj, vp_updL]
  · simp [hb]
theorem ui_2 (s : gp_S) (a k : Nat) (v : Int32) : (gp_ui s a k v).2 = s.2 := rfl
theorem uj_1 (s : gp_S) (a k : Nat) (v : Int64) : (gp_uj s a k v).1 = s.1 := rfl
def arr (s : gp_S) (a n : Nat) (v : Nat → Nat) : Prop := ∀ k, k < n → s.1 a k = nI (v k)
theorem arr.put {s : gp_S} {a n : Nat} {v : Nat → Nat} (h : arr s a n v) (k x : Nat) : arr (gp_ui s a k (nI x)) a n (va_up v k x) := by
  intro j hj
  rw [ui_at]
  by_cases e : j = k
  · simp [e, va_up]
  · simp [e, va_up, h j hj]
theorem arr.fr {s s' : gp_S} {a n : Nat} {v : Nat → Nat} (h : arr s a n v) {l : List Nat} (hf : fr l s s') (ha : a ∉ l := by decide) : arr s' a n v := fun k hk => by rw [hf.i a ha]; exact h k hk
theorem arr.ne {s : gp_S} {a n : Nat} {v : Nat → Nat} (h : arr s a n v) {b : Nat} (k : Nat) (x : Int32) (hb : a ≠ b := by decide) : arr (gp_ui s b k x) a n v := fun j hj => by rw [gp_ui_ne s k x hb]; exact h j hj
theorem arr.congr {s : gp_S} {a n : Nat} {v w : Nat → Nat} (h : arr s a n v) (hw : ∀ k, k < n → w k = v k) : arr s a n w := fun k hk => by rw [hw k hk]; exact h k hk
theorem arr.less {s : gp_S} {a n m : Nat} {v : Nat → Nat} (h : arr s a n v) (hm : m ≤ n) : arr s a m v := fun k hk => h k (by omega)
theorem sp_fill_7 {G : gp_G} {N : Nat} {x : Int32} {f : gp_S → Prop} {s : gp_S} (h : ∀ s', fr [7] s s' → (∀ k, k < 12 → s'.1 7 k = x) → f s') : cl_J7_fill_53178_o7 G N x f s := by
  refine sg_J7_fill_53178_o7 x ?_
  have key : ∀ (d k : Nat) (s1 : gp_S), k + d = 12 → fr [7] s s1 → (∀ j, j < k → s1.1 7 j = x) → at_J7_fill_53178_o7_5 G N x (nI k) 12 f s1 := by
    intro d
    induction d with
    | zero =>
      intro k s1 hk hf hv
      refine sg_J7_fill_53178_o7_5 x (nI k) 12 (pk_le 12 k (fun _ => h s1 hf (fun j hj => hv j (by omega))) (fun q => absurd q (by omega)))
    | succ d ih =>
      intro k s1 hk hf hv
      refine sg_J7_fill_53178_o7_5 x (nI k) 12 (pk_le 12 k (fun q => absurd q (by omega)) (fun _ => ⟨vp_in_nI (by omega) (by omega), ?_⟩))
      rw [nI_1, nI_clamp (by omega)]
      refine ih (k + 1) _ (by omega) (hf.ui k x) (fun j hj => ?_)
      rw [ui_at]
      by_cases e : j = k
      · simp [e]
      · simp [e, hv j (by omega)]
  exact key 12 0 s rfl fr_rfl (fun j hj => absurd hj (by omega))
theorem sp_fill_15 {G : gp_G} {N : Nat} {x : Int32} {f : gp_S → Prop} {s : gp_S} (h : ∀ s', fr [15] s s' → (∀ k, k < 12 → s'.1 15 k = x) → f s') : cl_J7_fill_53178_o15 G N x f s := by
  refine sg_J7_fill_53178_o15 x ?_
  have key : ∀ (d k : Nat) (s1 : gp_S), k + d = 12 → fr [15] s s1 → (∀ j, j < k → s1.1 15 j = x) → at_J7_fill_53178_o15_5 G N x (nI k) 12 f s1 := by
    intro d
    induction d with
    | zero =>
      intro k s1 hk hf hv
      refine sg_J7_fill_53178_o15_5 x (nI k) 12 (pk_le 12 k (fun _ => h s1 hf (fun j hj => hv j (by omega))) (fun q => absurd q (by omega)))
    | succ d ih =>
      intro k s1 hk hf hv
      refine sg_J7_fill_53178_o15_5 x (nI k) 12 (pk_le 12 k (fun q => absurd q (by omega)) (fun _ => ⟨vp_in_nI (by omega) (by omega), ?_⟩))
      rw [nI_1, nI_clamp (by omega)]
      refine ih (k + 1) _ (by omega) (hf.ui k x) (fun j hj => ?_)
      rw [ui_at]
      by_cases e : j = k
      · simp [e]
      · simp [e, hv j (by omega)]
  exact key 12 0 s rfl fr_rfl (fun j hj => absurd hj (by omega))
theorem sp_fill_16 {G : gp_G} {N : Nat} {x : Int32} {f : gp_S → Prop} {s : gp_S} (h : ∀ s', fr [16] s s' → (∀ k, k < 12 → s'.1 16 k = x) → f s') : cl_J7_fill_53178_o16 G N x f s := by
  refine sg_J7_fill_53178_o16 x ?_
  have key : ∀ (d k : Nat) (s1 : gp_S), k + d = 12 → fr [16] s s1 → (∀ j, j < k → s1.1 16 j = x) → at_J7_fill_53178_o16_5 G N x (nI k) 12 f s1 := by
    intro d
    induction d with
    | zero =>
      intro k s1 hk hf hv
      refine sg_J7_fill_53178_o16_5 x (nI k) 12 (pk_le 12 k (fun _ => h s1 hf (fun j hj => hv j (by omega))) (fun q => absurd q (by omega)))
    | succ d ih =>
      intro k s1 hk hf hv
      refine sg_J7_fill_53178_o16_5 x (nI k) 12 (pk_le 12 k (fun q => absurd q (by omega)) (fun _ => ⟨vp_in_nI (by omega) (by omega), ?_⟩))
      rw [nI_1, nI_clamp (by omega)]
      refine ih (k + 1) _ (by omega) (hf.ui k x) (fun j hj => ?_)
      rw [ui_at]
      by_cases e : j = k
      · simp [e]
      · simp [e, hv j (by omega)]
  exact key 12 0 s rfl fr_rfl (fun j hj => absurd hj (by omega))
theorem sp_fill_18 {G : gp_G} {N : Nat} {x : Int32} {f : gp_S → Prop} {s : gp_S} (h : ∀ s', fr [18] s s' → (∀ k, k < 12 → s'.1 18 k = x) → f s') : cl_J7_fill_53178_o18 G N x f s := by
  refine sg_J7_fill_53178_o18 x ?_
  have key : ∀ (d k : Nat) (s1 : gp_S), k + d = 12 → fr [18] s s1 → (∀ j, j < k → s1.1 18 j = x) → at_J7_fill_53178_o18_5 G N x (nI k) 12 f s1 := by
    intro d
    induction d with
    | zero =>
      intro k s1 hk hf hv
      refine sg_J7_fill_53178_o18_5 x (nI k) 12 (pk_le 12 k (fun _ => h s1 hf (fun j hj => hv j (by omega))) (fun q => absurd q (by omega)))
    | succ d ih =>
      intro k s1 hk hf hv
      refine sg_J7_fill_53178_o18_5 x (nI k) 12 (pk_le 12 k (fun q => absurd q (by omega)) (fun _ => ⟨vp_in_nI (by omega) (by omega), ?_⟩))
      rw [nI_1, nI_clamp (by omega)]
      refine ih (k + 1) _ (by omega) (hf.ui k x) (fun j hj => ?_)
      rw [ui_at]
      by_cases e : j = k
      · simp [e]
      · simp [e, hv j (by omega)]
  exact key 12 0 s rfl fr_rfl (fun j hj => absurd hj (by omega))
theorem sp_fill_19 {G : gp_G} {N : Nat} {x : Int32} {f : gp_S → Prop} {s : gp_S} (h : ∀ s', fr [19] s s' → (∀ k, k < 12 → s'.1 19 k = x) → f s') : cl_J7_fill_53178_o19 G N x f s := by
  refine sg_J7_fill_53178_o19 x ?_
  have key : ∀ (d k : Nat) (s1 : gp_S), k + d = 12 → fr [19] s s1 → (∀ j, j < k → s1.1 19 j = x) → at_J7_fill_53178_o19_5 G N x (nI k) 12 f s1 := by
    intro d
    induction d with
    | zero =>
      intro k s1 hk hf hv
      refine sg_J7_fill_53178_o19_5 x (nI k) 12 (pk_le 12 k (fun _ => h s1 hf (fun j hj => hv j (by omega))) (fun q => absurd q (by omega)))
    | succ d ih =>
      intro k s1 hk hf hv
      refine sg_J7_fill_53178_o19_5 x (nI k) 12 (pk_le 12 k (fun q => absurd q (by omega)) (fun _ => ⟨vp_in_nI (by omega) (by omega), ?_⟩))
      rw [nI_1, nI_clamp (by omega)]
      refine ih (k + 1) _ (by omega) (hf.ui k x) (fun j hj => ?_)
      rw [ui_at]
      by_cases e : j = k
      · simp [e]
      · simp [e, hv j (by omega)]
  exact key 12 0 s rfl fr_rfl (fun j hj => absurd hj (by omega))
theorem sp_fill_25 {G : gp_G} {N : Nat} {x : Int32} {f : gp_S → Prop} {s : gp_S} (h : ∀ s', fr [25] s s' → (∀ k, k < 12 → s'.1 25 k = x) → f s') : cl_J7_fill_53178_o25 G N x f s := by
  refine sg_J7_fill_53178_o25 x ?_
  have key : ∀ (d k : Nat) (s1 : gp_S), k + d = 12 → fr [25] s s1 → (∀ j, j < k → s1.1 25 j = x) → at_J7_fill_53178_o25_5 G N x (nI k) 12 f s1 := by
    intro d
    induction d with
    | zero =>
      intro k s1 hk hf hv
      refine sg_J7_fill_53178_o25_5 x (nI k) 12 (pk_le 12 k (fun _ => h s1 hf (fun j hj => hv j (by omega))) (fun q => absurd q (by omega)))
    | succ d ih =>
      intro k s1 hk hf hv
      refine sg_J7_fill_53178_o25_5 x (nI k) 12 (pk_le 12 k (fun q => absurd q (by omega)) (fun _ => ⟨vp_in_nI (by omega) (by omega), ?_⟩))
      rw [nI_1, nI_clamp (by omega)]
      refine ih (k + 1) _ (by omega) (hf.ui k x) (fun j hj => ?_)
      rw [ui_at]
      by_cases e : j = k
      · simp [e]
      · simp [e, hv j (by omega)]
  exact key 12 0 s rfl fr_rfl (fun j hj => absurd hj (by omega))
