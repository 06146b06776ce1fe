/-! the parser: phase, inputs, gates begun, kinds of gates, drivers of pins -/
abbrev gPS : Type := Nat × Nat × Nat × (Nat → Nat) × (Nat → Nat)
def stepN (A : gPS) (c : Nat) : Option gPS :=
  if A.1 = 0 then (if 49 ≤ c ∧ c ≤ 52 then some (1, c - 48, 0, A.2.2.2.1, A.2.2.2.2) else none)
  else if A.1 = 1 then (if c = 59 ∧ A.2.2.1 < 8 then some (2, A.2) else none)
  else if A.1 = 2 then (if kindN c = 0 then none else some (3, A.2.1, A.2.2.1 + 1, va_up A.2.2.2.1 A.2.2.1 (kindN c), A.2.2.2.2))
  else match figN c with
    | none => none
    | some v => if 12 ≤ v then none else some (if A.1 - 3 + 1 = pinsN (A.2.2.2.1 (A.2.2.1 - 1)) then 1 else 4, A.2.1, A.2.2.1, A.2.2.2.1, va_up A.2.2.2.2 (2 * (A.2.2.1 - 1) + (A.1 - 3)) v)
def A0 : gPS := (0, 0, 0, fun _ => 0, fun _ => 0)
def okA (A : gPS) : Prop := A.1 ≤ 4 ∧ (A.1 = 0 → A.2.1 = 0 ∧ A.2.2.1 = 0) ∧ (A.1 ≠ 0 → 1 ≤ A.2.1) ∧ A.2.1 ≤ 4 ∧ A.2.2.1 ≤ 8 ∧ (A.1 = 2 → A.2.2.1 < 8) ∧ (3 ≤ A.1 → 1 ≤ A.2.2.1) ∧ (∀ g, g < A.2.2.1 → 1 ≤ A.2.2.2.1 g ∧ A.2.2.2.1 g ≤ 5) ∧ (A.1 = 4 → pinsN (A.2.2.2.1 (A.2.2.1 - 1)) = 2) ∧ (∀ k, A.2.2.2.2 k < 12)
theorem okA0 : okA A0 := ⟨by decide, fun _ => ⟨rfl, rfl⟩, fun q => absurd rfl q, by decide, by decide, fun q => absurd q (by decide), fun q => absurd q (by decide), fun g hg => absurd hg (Nat.not_lt_zero g), fun q => absurd q (by decide), fun _ => (by decide : 0 < 12)⟩
theorem pinsN_pos {k : Nat} (h : 1 ≤ k) : pinsN k = 1 ∨ pinsN k = 2 := by
  unfold pinsN
  rw [if_neg (by omega)]
  split
  · exact Or.inr rfl
  · exact Or.inl rfl
theorem okA_step {A B : gPS} {c : Nat} (h : okA A) (hs : stepN A c = some B) : okA B := by
  obtain ⟨ph, ni, ng, kd, dv⟩ := A
  obtain ⟨h1, h2, h3, h4, h5, h6, h7, h8, h9, h10⟩ := h
  simp only at h1 h2 h3 h4 h5 h6 h7 h8 h9 h10
  unfold stepN at hs
  simp only at hs
  by_cases e0 : ph = 0
  · rw [if_pos e0] at hs
    split at hs
    · cases hs
      refine ⟨by simp, fun q => absurd q (by simp), fun _ => ?_, ?_, by simp, fun q => absurd q (by simp), fun q => absurd q (by simp), fun g hg => absurd hg (by simp), fun q => absurd q (by simp), h10⟩
      · show 1 ≤ c - 48; omega
      · show c - 48 ≤ 4; omega
    · cases hs
  rw [if_neg e0] at hs
  by_cases e1 : ph = 1
  · rw [if_pos e1] at hs
    split at hs
    · rename_i hc
      cases hs
      exact ⟨by simp, fun q => absurd q (by simp), fun _ => h3 e0, h4, h5, fun _ => hc.2, fun q => absurd q (by simp), h8, fun q => absurd q (by simp), h10⟩
    · cases hs
  rw [if_neg e1] at hs
  by_cases e2 : ph = 2
  · rw [if_pos e2] at hs
    split at hs
    · cases hs
    · rename_i hk
      cases hs
      have h6 := h6 e2
      refine ⟨by simp, fun q => absurd q (by simp), fun _ => h3 e0, h4, h6, fun q => absurd q (by simp), fun _ => by simp, ?_, fun q => absurd q (by simp), h10⟩
      intro g hg
      simp only at hg
      show 1 ≤ va_up kd ng (kindN c) g ∧ va_up kd ng (kindN c) g ≤ 5
      by_cases e : g = ng
      · simp only [va_up, e, if_true]
        exact ⟨by omega, kindN_le c⟩
      · simp only [va_up, e, if_false]
        exact h8 g (by omega)
  rw [if_neg e2] at hs
  have h7 := h7 (by omega)
  cases hf : figN c with
  | none => rw [hf] at hs; cases hs
  | some v =>
    rw [hf] at hs
    simp only at hs
    split at hs
    · cases hs
    · rename_i hv
      cases hs
      have hp := pinsN_pos (h8 (ng - 1) (by omega)).1
      refine ⟨?_, fun q => ?_, fun _ => h3 e0, h4, h5, fun q => ?_, fun q => h7, h8, fun q => ?_, ?_⟩
      · show (if ph - 3 + 1 = pinsN (kd (ng - 1)) then 1 else 4) ≤ 4
        split <;> omega
      · simp only at q
        split at q <;> omega
      · simp only at q
        split at q <;> omega
      · simp only at q
        show pinsN (kd (ng - 1)) = 2
        split at q
        · omega
        · rename_i hne
          rcases hp with e | e
          · have : ph = 3 ∨ ph = 4 := by omega
            rcases this with e4 | e4
            · omega
            · rw [h9 e4] at e; omega
          · exact e
      · intro k
        show va_up dv (2 * (ng - 1) + (ph - 3)) v k < 12
        unfold va_up
        split
        · omega
        · exact h10 k
def told (A : gPS) (g p : Nat) : Prop := g < A.2.2.1 ∧ p < pinsN (A.2.2.2.1 g) ∧ (g + 1 = A.2.2.1 → 3 ≤ A.1 → p + 3 < A.1)
def rX (A : gPS) (s : gp_S) : Prop := s.1 6 2 = nI A.2.1 ∧ s.1 6 3 = nI (A.2.1 + A.2.2.1) ∧ s.1 6 4 = nI (if A.1 = 4 then 3 else A.1) ∧ (3 ≤ A.1 → s.1 6 5 = nI (A.1 - 3)) ∧ (∀ n, n < A.2.1 → s.1 7 n = nI 0) ∧ (∀ g, g < A.2.2.1 → s.1 7 (A.2.1 + g) = nI (A.2.2.2.1 g)) ∧ (∀ g p, told A g p → s.1 8 (2 * (A.2.1 + g) + p) = nI (A.2.2.2.2 (2 * g + p)))
def pX (a k : Nat) : Bool := a == 6 || a == 7 || a == 8
theorem rX_fm {A : gPS} {s s' : gp_S} (h : rX A s) (hf : ∀ a k, (a = 6 ∨ a = 7 ∨ a = 8) → s'.1 a k = s.1 a k) : rX A s' := by
  obtain ⟨h1, h2, h3, h4, h5, h6, h7⟩ := h
  refine ⟨by rw [hf 6 2 (by simp)]; exact h1, by rw [hf 6 3 (by simp)]; exact h2, by rw [hf 6 4 (by simp)]; exact h3, fun q => by rw [hf 6 5 (by simp)]; exact h4 q, fun n hn => by rw [hf 7 n (by simp)]; exact h5 n hn, fun g hg => by rw [hf 7 _ (by simp)]; exact h6 g hg, fun g p hp => by rw [hf 8 _ (by simp)]; exact h7 g p hp⟩
def resI (o : Option gPS) : Int32 := match o with
  | some _ => 1
  | none => 0
theorem sp_takesX {G : gp_G} {N c : Nat} {A : gPS} {f : Int32 → gp_S → Prop} {s : gp_S} (hc : c < 127) (hok : okA A) (hr : rX A s) (h0 : stepN A c = none → f 0 s) (h1 : ∀ B s', stepN A c = some B → rX B s' → fm pX s s' → f 1 s') : cl_X0_takes_o6 G (N + 2) (nI c) f s := by
  obtain ⟨ph, ni, ng, kd, dv⟩ := A
  obtain ⟨k1, k2, k3, k4, k5, k6, k7, k8, k9, k10⟩ := hok
  obtain ⟨r1, r2, r3, r4, r5, r6, r7⟩ := id hr
  simp only at k1 k2 k3 k4 k5 k6 k7 k8 k9 k10 r1 r2 r3 r4 r5 r6
  refine sg_X0_takes_o6 _ ?_
  rw [r3]
  unfold stepN at h0 h1
  simp only at h0 h1
  refine ⟨fun q => ?_, fun q => ?_, fun q => ?_, fun q1 q2 q3 => ?_⟩
  · have e0 : ph = 0 := by
      have := nI_inj (b := 0) (by split <;> omega) (by omega) q
      split at this <;> omega
    simp only [if_pos e0] at h0 h1
    refine sg_X0_takesInputs_o6 _ (pk_lt c 49 (fun e => ⟨Or.inl rfl, h0 (by rw [if_neg (by omega)])⟩) (fun e => pk_le c 52 (fun e2 => ?_) (fun e2 => ⟨Or.inl rfl, h0 (by rw [if_neg (by omega)])⟩)))
    refine sp_fill_7 (fun s' hf hv => ⟨Or.inr rfl, h1 _ _ (if_pos ⟨e, e2⟩) ?_ ?_⟩)
    · have e62 : s'.1 6 2 = nI (c - 48) := by rw [hf.i 6, ui_at, if_pos ⟨rfl, rfl⟩, subI (b := 48) (by omega)]
      refine ⟨?_, ?_, ?_, fun q => absurd q (by simp), fun n hn => ?_, fun g hg => absurd hg (by simp), fun g p hp => absurd hp.1 (by simp)⟩
      · simp [ui_at, e62]
      · simp [ui_at, e62]
      · simp [ui_at]; rfl
      · simp only at hn
        simp only [ui_at]
        rw [if_neg (by omega), if_neg (by omega), hv n (by omega)]
        rfl
    · refine fm.ui (fm.ui (fm.fr (a := 7) (fm.ui fm_rfl 6 2 _) hf) 6 3 _) 6 4 _
  · have e1 : ph = 1 := by
      have := nI_inj (b := 1) (by split <;> omega) (by omega) q
      split at this <;> omega
    simp only [if_neg (show ¬ ph = 0 by omega), if_pos e1] at h0 h1
    refine sg_X0_takesGate_o6 _ (pk_ne c 59 (fun e => ⟨Or.inl rfl, h0 (by rw [if_neg (by omega)])⟩) (fun e => ?_))
    have e63 : s.1 6 3 - s.1 6 2 = nI ng := by rw [r2, r1, pk_sub (by omega)]; congr 1; omega
    rw [e63]
    refine pk_lt ng 8 (fun e2 => ⟨Or.inr rfl, h1 _ _ (if_pos ⟨e, e2⟩) ?_ (fm_rfl.ui 6 4 _)⟩) (fun e2 => ⟨Or.inl rfl, h0 (by rw [if_neg (by omega)])⟩)
    refine ⟨?_, ?_, ?_, fun q => absurd q (by simp), fun n hn => ?_, fun g hg => ?_, fun g p hp => ?_⟩
    · simp [ui_at, r1]
    · simp [ui_at, r2]
    · simp [ui_at]; rfl
    · simp [ui_at, r5 n hn]
    · simp [ui_at, r6 g hg]
    · simp only [ui_at]
      rw [if_neg (by omega)]
      exact r7 g p ⟨hp.1, hp.2.1, fun _ q => by simp only at q; omega⟩
  · have e2 : ph = 2 := by
      have := nI_inj (b := 2) (by split <;> omega) (by omega) q
      split at this <;> omega
    simp only [if_neg (show ¬ ph = 0 by omega), if_neg (show ¬ ph = 1 by omega), if_pos e2] at h0 h1
    have k6 := k6 e2
    refine sg_X0_takesKind_o6 _ (sp_kindX hc ?_)
    by_cases ek : kindN c = 0
    · rw [show kindI (kindN c) = -1 from by unfold kindI; rw [if_pos ek]]
      exact ⟨fun _ => ⟨Or.inl rfl, h0 (if_pos ek)⟩, fun z => absurd rfl z⟩
    · rw [show kindI (kindN c) = nI (kindN c) from by unfold kindI; rw [if_neg ek]]
      have := kindN_le c
      refine ⟨fun z => absurd z (nI_m1 _ (by omega)), fun _ => ?_⟩
      rw [r2]
      refine pk_lt (ni + ng) 12 (fun e3 => ⟨vp_in_nI (by omega) (by omega), Or.inr rfl, h1 _ _ (if_neg ek) ?_ ?_⟩) (fun e3 => absurd e3 (by omega))
      · rw [nI_clamp (by omega)]
        refine ⟨?_, ?_, ?_, fun _ => ?_, fun n hn => ?_, fun g hg => ?_, fun g p hp => ?_⟩
        · simp [ui_at, r1]
        · simp only [ui_at]; simp [nI_1, Nat.add_assoc]
        · simp [ui_at]; rfl
        · simp [ui_at]; rfl
        · simp only at hn
          simp only [ui_at]
          rw [if_neg (by omega), if_neg (by omega), if_neg (by omega), if_neg (by omega)]
          exact r5 n hn
        · simp only at hg
          simp only [ui_at]
          rw [if_neg (by omega), if_neg (by omega), if_neg (by omega)]
          by_cases e : g = ng
          · rw [if_pos ⟨trivial, by omega⟩]; simp [va_up, e]
          · rw [if_neg (by omega), r6 g (by omega)]; simp [va_up, e]
        · obtain ⟨hp1, hp2, hp3⟩ := hp
          simp only at hp1 hp2 hp3
          have hg : g ≠ ng := fun e => by have := hp3 (by omega) (by omega); omega
          simp only [ui_at]
          rw [if_neg (by omega), if_neg (by omega), if_neg (by omega), if_neg (by omega)]
          refine r7 g p ⟨?_, ?_, fun _ q => ?_⟩
          · show g < ng; omega
          · simp only [va_up, hg, if_false] at hp2; exact hp2
          · simp only at q; omega
      · rw [nI_clamp (by omega)]
        exact (((fm_rfl.ui 7 _ _).ui 6 3 _).ui 6 5 _).ui 6 4 _
  · have e3 : ph = 3 ∨ ph = 4 := by
      have a0 : ph ≠ 0 := fun e => q1 (by rw [e]; rfl)
      have a1 : ph ≠ 1 := fun e => q2 (by rw [e]; rfl)
      have a2 : ph ≠ 2 := fun e => q3 (by rw [e]; rfl)
      omega
    simp only [if_neg (show ¬ ph = 0 by omega), if_neg (show ¬ ph = 1 by omega), if_neg (show ¬ ph = 2 by omega)] at h0 h1
    have k7 := k7 (by omega)
    have r4 := r4 (by omega)
    refine sg_X0_takesPin_o6 _ (sp_figX hc ?_)
    cases hf : figN c with
    | none =>
      rw [hf] at h0
      exact ⟨fun _ => ⟨Or.inl rfl, h0 rfl⟩, fun z => absurd rfl z⟩
    | some v =>
      rw [hf] at h0 h1
      simp only at h0 h1
      have hv := figN_lt hf
      have hg1 : s.1 6 3 - 1 = nI (ni + (ng - 1)) := by
        rw [r2, subI (b := 1) (by omega)]; congr 1; omega
      have hkd := k8 (ng - 1) (by omega)
      have hpp := pinsN_pos hkd.1
      have hlt : ph - 3 < pinsN (kd (ng - 1)) := by
        rcases e3 with e | e
        · omega
        · have := k9 e; omega
      refine ⟨fun z => absurd z (nI_m1 v (by omega)), fun _ => pk_le 12 v (fun e => ⟨Or.inl rfl, h0 (if_pos e)⟩) (fun e => ?_)⟩
      rw [hg1]
      refine ⟨fun z => absurd z (nI_pos (by omega)), fun _ => ?_⟩
      refine sp_pinsD (k := kd (ng - 1)) (by omega) hkd.2 (r6 (ng - 1) (by omega)) ?_
      rw [r4]
      refine pk_lt (ph - 3) (pinsN (kd (ng - 1))) (fun _ => ?_) (fun z => absurd z (by omega))
      rw [mulI (b := 2), nI_add]
      refine ⟨vp_in_nI (by omega) (by omega), ?_⟩
      rw [nI_clamp (by omega), nI_1]
      refine sp_pinsD (k := kd (ng - 1)) (by omega) hkd.2 ?_ ?_
      · simp only [ui_at]
        rw [if_neg (by omega), if_neg (by omega)]
        exact r6 (ng - 1) (by omega)
      · have hstep := h1 _ (gp_ui s 0 0 0) (if_neg (show ¬ 12 ≤ v by omega))
        refine pk_ne (ph - 3 + 1) (pinsN (kd (ng - 1))) (fun e4 => ⟨Or.inr rfl, h1 _ _ (if_neg (show ¬ 12 ≤ v by omega)) ?_ ((fm_rfl.ui 8 _ _).ui 6 5 _)⟩) (fun e4 => ⟨Or.inr rfl, h1 _ _ (if_neg (show ¬ 12 ≤ v by omega)) ?_ (((fm_rfl.ui 8 _ _).ui 6 5 _).ui 6 4 _)⟩)
        · have e5 : ph = 3 := by omega
          simp only [if_neg e4]
          refine ⟨?_, ?_, ?_, fun _ => ?_, fun n hn => ?_, fun g hg => ?_, fun g p hp => ?_⟩
          · simp [ui_at, r1]
          · simp [ui_at, r2]
          · simp only [ui_at]; simp [r3, e5]
          · simp [ui_at, e5]
          · simp [ui_at, r5 n hn]
          · simp [ui_at, r6 g hg]
          · obtain ⟨hp1, hp2, hp3⟩ := hp
            simp only at hp1 hp2 hp3
            simp only [ui_at]
            by_cases e : g = ng - 1 ∧ p = ph - 3
            · rw [if_neg (by omega), if_pos ⟨trivial, by omega⟩]
              simp [va_up, e.1, e.2, figI]
            · have hp2' : p < 2 := by
                have := pinsN_pos (k8 g hp1).1; omega
              rw [if_neg (by omega), if_neg (by omega)]
              have hne : 2 * g + p ≠ 2 * (ng - 1) + (ph - 3) := by omega
              simp only [va_up, hne, if_false]
              refine r7 g p ⟨hp1, hp2, fun e6 _ => ?_⟩
              simp only at e6
              have := hp3 e6 (by omega)
              simp only
              omega
        · simp only [if_pos e4]
          refine ⟨?_, ?_, ?_, fun q => absurd q (by simp), fun n hn => ?_, fun g hg => ?_, fun g p hp => ?_⟩
          · simp [ui_at, r1]
          · simp [ui_at, r2]
          · simp [ui_at]; rfl
          · simp [ui_at, r5 n hn]
          · simp [ui_at, r6 g hg]
          · obtain ⟨hp1, hp2, hp3⟩ := hp
            simp only at hp1 hp2 hp3
            simp only [ui_at]
            by_cases e : g = ng - 1 ∧ p = ph - 3
            · rw [if_neg (by omega), if_neg (by omega), if_pos ⟨trivial, by omega⟩]
              simp [va_up, e.1, e.2, figI]
            · have hp2' : p < 2 := by
                have := pinsN_pos (k8 g hp1).1; omega
              rw [if_neg (by omega), if_neg (by omega), if_neg (by omega)]
              have hne : 2 * g + p ≠ 2 * (ng - 1) + (ph - 3) := by omega
              simp only [va_up, hne, if_false]
              refine r7 g p ⟨hp1, hp2, fun e6 _ => ?_⟩
              simp only at e6
              have e7 : g = ng - 1 := by omega
              subst e7
              simp only
              omega
