def prs (cs : Nat → Nat) : Nat → Option gPS
  | 0 => some A0
  | k + 1 => (prs cs k).bind (fun A => stepN A (cs k))
theorem prs_succ {cs : Nat → Nat} {k : Nat} {A : gPS} (h : prs cs k = some A) : prs cs (k + 1) = stepN A (cs k) := by
  show (prs cs k).bind _ = _
  rw [h]
  rfl
theorem prs_ok {cs : Nat → Nat} : ∀ {k : Nat} {A : gPS}, prs cs k = some A → okA A
  | 0, A, h => by cases h; exact okA0
  | k + 1, A, h => by
    cases hk : prs cs k with
    | none => rw [show prs cs (k + 1) = (prs cs k).bind (fun A => stepN A (cs k)) from rfl, hk] at h; cases h
    | some B =>
      rw [prs_succ hk] at h
      exact okA_step (prs_ok hk) h
theorem prs_down {cs : Nat → Nat} {k : Nat} (j : Nat) (h : prs cs k = none) : prs cs (k + j) = none := by
  induction j with
  | zero => exact h
  | succ j ih =>
    show (prs cs (k + j)).bind _ = none
    rw [ih]
    rfl
def stopP (pl : Nat) (cs : Nat → Nat) (k : Nat) (A : gPS) : Prop := k ≤ pl ∧ prs cs k = some A ∧ (k = pl ∨ prs cs (k + 1) = none)
theorem stopP_one {pl : Nat} {cs : Nat → Nat} {k j : Nat} {A B : gPS} (h1 : stopP pl cs k A) (h2 : stopP pl cs j B) : k = j ∧ A = B := by
  have key : ∀ {k j : Nat} {A B : gPS}, stopP pl cs k A → stopP pl cs j B → ¬ k < j := by
    intro k j A B h1 h2 hlt
    rcases h1.2.2 with e | e
    · have := h2.1; omega
    · have := prs_down (j - (k + 1)) e
      rw [show k + 1 + (j - (k + 1)) = j from by omega, h2.2.1] at this
      cases this
  have e : k = j := by
    have a := key h1 h2
    have b := key h2 h1
    omega
  subst e
  exact ⟨rfl, Option.some.inj (h1.2.1.symm.trans h2.2.1)⟩
def okP (pl : Nat) (cs : Nat → Nat) : Prop := pl ≤ 40 ∧ ∀ i, i < pl → cs i < 127
def pgX (pl : Nat) (cs : Nat → Nat) (s : gp_S) : Prop := s.1 1 1 = nI pl ∧ ∀ i, i < pl → s.1 2 i = nI (cs i)
def pgM (pl : Nat) (cs : Nat → Nat) (s : gp_S) : Prop := s.1 34 0 = nI pl ∧ ∀ i, i < pl → s.1 35 i = nI (cs i)
theorem sp_readX {G : gp_G} {N pl : Nat} {cs : Nat → Nat} {f : Int32 → gp_S → Prop} {s : gp_S} (hP : okP pl cs) (hg : pgX pl cs s) (h : ∀ k A s', stopP pl cs k A → rX A s' → fm pX s s' → f (nI k) s') : cl_X0_read_o6_o1 G (N + 3) f s := by
  have key : ∀ (d k : Nat) (A : gPS) (s1 : gp_S), k + d = pl → prs cs k = some A → rX A s1 → fm pX s s1 → at_X0_read_o6_o1_17 G (N + 3) (nI k) f s1 := by
    intro d
    induction d with
    | zero =>
      intro k A s1 hk hp hr hf
      have e1 : s1.1 1 1 = nI pl := (hf.i 1 1).trans hg.1
      have hP1 := hP.1
      refine sg_X0_read_o6_o1_17 _ ?_
      rw [e1]
      refine pk_le pl k (fun _ => ?_) (fun q => absurd q (by omega))
      have := h k A s1 ⟨by omega, hp, Or.inl (by omega)⟩ hr hf
      rwa [show k = pl from by omega] at this
    | succ d ih =>
      intro k A s1 hk hp hr hf
      have e1 : s1.1 1 1 = nI pl := (hf.i 1 1).trans hg.1
      have hP1 := hP.1
      refine sg_X0_read_o6_o1_17 _ ?_
      rw [e1]
      refine pk_le pl k (fun q => absurd q (by omega)) (fun _ => ⟨vp_in_nI (by omega) (by omega), ?_⟩)
      rw [nI_clamp (by omega), hf.i 2 k, hg.2 k (by omega), nI_1]
      refine sp_takesX (hP.2 k (by omega)) (prs_ok hp) hr (fun e => ?_) (fun B s' e hr' hf' => ?_)
      · exact ⟨fun z => absurd rfl z, fun _ => h k A s1 ⟨by omega, hp, Or.inr (by rw [prs_succ hp]; exact e)⟩ hr hf⟩
      · exact ⟨fun _ => ih (k + 1) B s' (by omega) (by rw [prs_succ hp]; exact e) hr' (hf.trans hf'), fun z => absurd z (by decide)⟩
  refine sg_X0_read_o6_o1 (key pl 0 A0 _ (by omega) rfl ?_ (((fm_rfl.ui 6 2 _).ui 6 3 _).ui 6 4 _))
  refine ⟨?_, ?_, ?_, fun q => absurd q (by decide), fun n hn => absurd hn (Nat.not_lt_zero n), fun g hg => absurd hg (Nat.not_lt_zero g), fun g p hp => absurd hp.1 (Nat.not_lt_zero g)⟩
  · simp [ui_at]; rfl
  · simp [ui_at]; rfl
  · simp [ui_at]; rfl
theorem sp_goM {G : gp_G} {N pl : Nat} {cs : Nat → Nat} {f : Int32 → gp_S → Prop} {s : gp_S} (hP : okP pl cs) (hg : pgM pl cs s) (h : ∀ k A s', stopP pl cs k A → (k = pl → rM A s') → fm pM s s' → f (nI k) s') : cl_X10_goAlong G (N + 4) f s := by
  have key : ∀ (d k : Nat) (A : gPS) (s1 : gp_S), k + d = pl → prs cs k = some A → rM A s1 → fm pM s s1 → at_X10_goAlong_27 G (N + 4) (nI k) f s1 := by
    intro d
    induction d with
    | zero =>
      intro k A s1 hk hp hr hf
      have e1 : s1.1 34 0 = nI pl := (hf.i 34 0).trans hg.1
      have hP1 := hP.1
      refine sg_X10_goAlong_27 _ ?_
      rw [e1]
      exact pk_le pl k (fun _ => h k A s1 ⟨by omega, hp, Or.inl (by omega)⟩ (fun _ => hr) hf) (fun q => absurd q (by omega))
    | succ d ih =>
      intro k A s1 hk hp hr hf
      have e1 : s1.1 34 0 = nI pl := (hf.i 34 0).trans hg.1
      have hP1 := hP.1
      refine sg_X10_goAlong_27 _ ?_
      rw [e1]
      refine pk_le pl k (fun q => absurd q (by omega)) (fun _ => ⟨vp_in_nI (by omega) (by omega), ?_⟩)
      rw [nI_clamp (by omega), hf.i 35 k, hg.2 k (by omega), nI_1]
      refine sp_takesM (hP.2 k (by omega)) (prs_ok hp) hr (fun s' e hf' => ?_) (fun B s' e hr' hf' => ?_)
      · exact ⟨fun _ => h k A s' ⟨by omega, hp, Or.inr (by rw [prs_succ hp]; exact e)⟩ (fun q => absurd q (by omega)) (hf.trans hf'), fun z => absurd rfl z⟩
      · exact ⟨fun z => absurd z (by decide), fun _ => ih (k + 1) B s' (by omega) (by rw [prs_succ hp]; exact e) hr' (hf.trans hf')⟩
  refine sg_X10_goAlong (key pl 0 A0 _ (by omega) rfl ?_ (((((fm_rfl.ui 34 14 _).ui 34 15 _).ui 34 16 _).ui 34 17 _).ui 34 18 _))
  refine ⟨?_, ?_, ?_, ?_, ?_, fun g hg => absurd hg (Nat.not_lt_zero g), fun g p hp => absurd hp.1 (Nat.not_lt_zero g)⟩
  · simp [ui_at]; rfl
  · simp [ui_at]; rfl
  · simp [ui_at]; rfl
  · simp [ui_at]; rfl
  · simp [ui_at]; rfl
/-! figures -/
def stopF (pl : Nat) (cs : Nat → Nat) (k : Nat) : Prop := k ≤ pl ∧ k ≤ 16 ∧ (∀ i, i < k → figN (cs i) ≠ none) ∧ (k = pl ∨ k = 16 ∨ figN (cs k) = none)
theorem stopF_one {pl : Nat} {cs : Nat → Nat} {k j : Nat} (h1 : stopF pl cs k) (h2 : stopF pl cs j) : k = j := by
  have key : ∀ {k j : Nat}, stopF pl cs k → stopF pl cs j → ¬ k < j := by
    intro k j h1 h2 hlt
    have a := h2.1
    have b := h2.2.1
    rcases h1.2.2.2 with e | e | e
    · omega
    · omega
    · exact h2.2.2.1 k hlt e
  have a := key h1 h2
  have b := key h2 h1
  omega
theorem figI_m1 {o : Option Nat} (h : ∀ v, o = some v → v < 16) : (figI o = -1 ↔ o = none) := by
  cases o with
  | none => exact ⟨fun _ => rfl, fun _ => rfl⟩
  | some v => exact ⟨fun q => absurd q (nI_m1 v (by have := h v rfl; omega)), fun q => by cases q⟩
theorem figB_16 {o : Option Nat} (h : ∀ v, o = some v → v < 16) : figB o 16 = figI o := by
  cases o with
  | none => rfl
  | some v => exact if_pos (h v rfl)
theorem sp_misfit {G : gp_G} {N pl : Nat} {cs : Nat → Nat} {f : Int32 → gp_S → Prop} {s : gp_S} (hP : okP pl cs) (hg : pgX pl cs s) (h : ∀ k, stopF pl cs k → f (nI k) s) : cl_X6_misfit_o1 G (N + 1) f s := by
  have hP1 := hP.1
  have key : ∀ (d k : Nat), k + d = pl → k ≤ 16 → (∀ i, i < k → figN (cs i) ≠ none) → at_X6_misfit_o1_2 G (N + 1) (nI k) f s := by
    intro d
    induction d with
    | zero =>
      intro k hk h16 hn
      refine sg_X6_misfit_o1_2 _ ?_
      rw [hg.1]
      refine pk_le pl k (fun _ => ?_) (fun q => absurd q (by omega))
      have := h k ⟨by omega, h16, hn, Or.inl (by omega)⟩
      rwa [show k = pl from by omega] at this
    | succ d ih =>
      intro k hk h16 hn
      refine sg_X6_misfit_o1_2 _ ?_
      rw [hg.1]
      refine pk_le pl k (fun q => absurd q (by omega)) (fun _ => pk_le 16 k (fun q => h k ⟨by omega, h16, hn, Or.inr (Or.inl (by omega))⟩) (fun q => ⟨vp_in_nI (by omega) (by omega), ?_⟩))
      rw [nI_clamp (by omega), hg.2 k (by omega), nI_1]
      refine sp_figX (hP.2 k (by omega)) ?_
      rw [figI_m1 (fun v hv => figN_lt hv)]
      refine ⟨fun e => ih (k + 1) (by omega) (by omega) (fun i hi => ?_), fun e => h k ⟨by omega, h16, hn, Or.inr (Or.inr e)⟩⟩
      rcases Nat.lt_or_ge i k with hik | hik
      · exact hn i hik
      · rw [show i = k from by omega]; exact e
  exact sg_X6_misfit_o1 (key pl 0 (by omega) (by omega) (fun i hi => absurd hi (Nat.not_lt_zero i)))
theorem sp_goF {G : gp_G} {N pl : Nat} {cs : Nat → Nat} {f : Int32 → gp_S → Prop} {s : gp_S} (hP : okP pl cs) (hg : pgM pl cs s) (h : ∀ k, stopF pl cs k → f (nI k) s) : cl_X10_goFigures G (N + 2) f s := by
  have hP1 := hP.1
  have key : ∀ (d k : Nat), k + d = pl → k ≤ 16 → (∀ i, i < k → figN (cs i) ≠ none) → at_X10_goFigures_2 G (N + 2) (nI k) f s := by
    intro d
    induction d with
    | zero =>
      intro k hk h16 hn
      refine sg_X10_goFigures_2 _ ?_
      rw [hg.1]
      exact pk_le pl k (fun _ => h k ⟨by omega, h16, hn, Or.inl (by omega)⟩) (fun q => absurd q (by omega))
    | succ d ih =>
      intro k hk h16 hn
      refine sg_X10_goFigures_2 _ ?_
      rw [hg.1]
      refine pk_le pl k (fun q => absurd q (by omega)) (fun _ => pk_le 16 k (fun q => h k ⟨by omega, h16, hn, Or.inr (Or.inl (by omega))⟩) (fun q => ⟨vp_in_nI (by omega) (by omega), ?_⟩))
      rw [nI_clamp (by omega), hg.2 k (by omega), nI_1]
      refine sp_figM (m := 16) (hP.2 k (by omega)) (by omega) ?_
      rw [figB_16 (fun v hv => figN_lt hv), figI_m1 (fun v hv => figN_lt hv)]
      refine ⟨fun e => h k ⟨by omega, h16, hn, Or.inr (Or.inr e)⟩, fun e => ih (k + 1) (by omega) (by omega) (fun i hi => ?_)⟩
      rcases Nat.lt_or_ge i k with hik | hik
      · exact hn i hik
      · rw [show i = k from by omega]; exact e
  exact sg_X10_goFigures (key pl 0 (by omega) (by omega) (fun i hi => absurd hi (Nat.not_lt_zero i)))
