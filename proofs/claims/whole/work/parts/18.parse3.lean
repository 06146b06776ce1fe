def gM (A : gPS) : Nat := if 3 ≤ A.1 then A.2.2.1 - 1 else A.2.2.1
def rM (A : gPS) (s : gp_S) : Prop := s.1 34 14 = nI A.2.1 ∧ s.1 34 15 = nI (gM A) ∧ s.1 34 16 = nI (if 2 ≤ A.1 then 1 else 0) ∧ s.1 34 17 = nI (if 3 ≤ A.1 then A.2.2.2.1 (A.2.2.1 - 1) else 0) ∧ s.1 34 18 = nI (if A.1 = 4 then 1 else 0) ∧ (∀ g, g < gM A → s.1 39 g = nI (A.2.2.2.1 g)) ∧ (∀ g p, told A g p → s.1 40 (2 * g + p) = nI (A.2.2.2.2 (2 * g + p)))
def pM (a k : Nat) : Bool := a == 39 || a == 40 || (a == 34 && (14 ≤ k && k ≤ 18))
theorem sp_takesM {G : gp_G} {N c : Nat} {A : gPS} {f : Int32 → gp_S → Prop} {s : gp_S} (hc : c < 127) (hok : okA A) (hr : rM A s) (h0 : ∀ s', stepN A c = none → fm pM s s' → f 0 s') (h1 : ∀ B s', stepN A c = some B → rM B s' → fm pM s s' → f 1 s') : cl_X10_takes G (N + 3) (nI c) f s := by
  obtain ⟨ph, ni, ng, kd, dv⟩ := A
  obtain ⟨k1, k2, k3, k4, k5, k6, k7, k8, k9, k10⟩ := hok
  obtain ⟨r1, r2, r3, r4, r5, r6, r7⟩ := id hr
  simp only [gM] at k1 k2 k3 k4 k5 k6 k7 k8 k9 k10 r1 r2 r3 r4 r5 r6
  refine sg_X10_takes _ ?_
  rw [r1, r4, r3, r2]
  unfold stepN at h0 h1
  simp only at h0 h1
  refine pk_ne ni 0 (fun e0 => ?_) (fun e0 => ?_)
  · have hph : ph ≠ 0 := fun e => e0 (k2 e).1
    simp only [if_neg hph] at h0 h1
    by_cases e3 : 3 ≤ ph
    · simp only [if_neg (show ¬ ph = 1 by omega), if_neg (show ¬ ph = 2 by omega)] at h0 h1
      simp only [if_pos e3]
      simp only [if_pos e3] at r2 r4 r6
      have k7 := k7 e3
      have hkd := k8 (ng - 1) (by omega)
      have hpp := pinsN_pos hkd.1
      have hp5 : s.1 34 18 = nI (ph - 3) := by rw [r5]; congr 1; split <;> omega
      have hlt : ph - 3 < pinsN (kd (ng - 1)) := by
        by_cases e : ph = 4
        · have := k9 e; omega
        · omega
      refine pk_le (kd (ng - 1)) 0 (fun z => absurd z (by omega)) (fun _ => ?_)
      refine sg_X10_takesPin _ (sp_figM (m := 12) hc (by omega) ?_)
      cases hf : figN c with
      | none =>
        rw [hf] at h0
        exact ⟨fun z => absurd rfl z, fun _ => ⟨Or.inl rfl, h0 _ rfl fm_rfl⟩⟩
      | some v =>
        rw [hf] at h0 h1
        simp only at h0 h1
        by_cases hv : 12 ≤ v
        · rw [show figB (some v) 12 = -1 from if_neg (by omega)]
          exact ⟨fun z => absurd rfl z, fun _ => ⟨Or.inl rfl, h0 _ (if_pos hv) fm_rfl⟩⟩
        · rw [show figB (some v) 12 = nI v from if_pos (by omega)]
          refine ⟨fun _ => ?_, fun z => absurd z (nI_m1 v (by omega))⟩
          rw [r2, hp5, mulI (b := 2), nI_add]
          refine ⟨vp_in_nI (by omega) (by omega), ?_⟩
          rw [nI_clamp (by omega), nI_1, r4]
          refine sp_pinsM hkd.2 ?_
          have hB := fun s' => h1 _ s' (if_neg hv)
          have hdr : ∀ g p, g < ng → p < pinsN (kd g) → (g + 1 = ng → 3 ≤ ph → p + 3 ≤ ph) → (gp_ui (gp_ui s 40 (2 * (ng - 1) + (ph - 3)) (nI v)) 34 18 (nI (ph - 3 + 1))).1 40 (2 * g + p) = nI (va_up dv (2 * (ng - 1) + (ph - 3)) v (2 * g + p)) := by
            intro g p hp1 hp2 hp3
            have hp2' : p < 2 := by
              have := pinsN_pos (k8 g hp1).1; omega
            simp only [ui_at]
            by_cases e : 2 * g + p = 2 * (ng - 1) + (ph - 3)
            · rw [if_neg (by omega), if_pos ⟨trivial, e⟩]
              simp [va_up, e]
            · rw [if_neg (by omega), if_neg (by omega)]
              simp only [va_up, e, if_false]
              refine r7 g p ⟨hp1, hp2, fun e6 _ => ?_⟩
              simp only at e6
              have := hp3 e6 e3
              simp only
              omega
          refine pk_ne (ph - 3 + 1) (pinsN (kd (ng - 1))) (fun e4 => ⟨Or.inr rfl, hB _ ?_ ((fm_rfl.ui 40 _ _).ui 34 18 _)⟩) (fun e4 => ?_)
          · have e5 : ph = 3 := by omega
            simp only [if_neg e4]
            refine ⟨?_, ?_, ?_, ?_, ?_, fun g hg => ?_, fun g p hp => ?_⟩
            · simp [ui_at, r1]
            · simp [ui_at, r2, gM]
            · simp only [ui_at]; simp [r3, e5]
            · simp [ui_at, r4]
            · simp [ui_at, e5]
            · simp only [gM] at hg
              simp [ui_at, r6 g hg]
            · exact hdr g p hp.1 hp.2.1 (fun e6 _ => by have := hp.2.2 e6 (by simp); simp only at this; omega)
          · simp only [ui_at]
            simp only [r2]
            refine ⟨by simp; exact vp_in_nI (by omega) (by omega), by simp, hB _ ?_ ?_⟩
            · simp only [if_pos e4]
              simp only [show (34 : Nat) ≠ 40 by decide, show (15 : Nat) ≠ 18 by decide, show (17 : Nat) ≠ 18 by decide, false_and, and_false, if_false, r2, r4]
              rw [nI_clamp (by omega), nI_1]
              refine ⟨?_, ?_, ?_, ?_, ?_, fun g hg => ?_, fun g p hp => ?_⟩
              · simp [ui_at, r1]
              · simp only [ui_at, gM]; simp; congr 1; omega
              · simp [ui_at]; rfl
              · simp [ui_at]; rfl
              · simp [ui_at]; rfl
              · simp only [gM] at hg
                simp at hg
                simp only [ui_at]
                by_cases e : g = ng - 1
                · simp [e]
                · simp [e, r6 g (by omega)]
              · have hd := hdr g p hp.1 hp.2.1 (fun e6 _ => by
                  have e7 : g = ng - 1 := by omega
                  have h2 := hp.2.1
                  simp only at h2
                  rw [e7] at h2
                  omega)
                simp only [ui_at] at hd ⊢
                simp at hd ⊢
                exact hd
            · exact ((((((fm_rfl.ui 40 _ _).ui 34 18 _).ui 39 _ _).ui 34 15 _).ui 34 17 _).ui 34 18 _).ui 34 16 _
    · simp only [if_neg e3]
      simp only [if_neg e3] at r2 r4 r6
      refine pk_le 0 0 (fun _ => ?_) (fun z => absurd z (by omega))
      by_cases e2 : ph = 2
      · simp only [if_neg (show ¬ ph = 1 by omega), if_pos e2] at h0 h1
        simp only [if_pos (show 2 ≤ ph by omega)]
        refine ⟨fun _ => ?_, fun z => absurd z (by decide)⟩
        refine sp_kindM hc ?_
        have k6 := k6 e2
        by_cases ek : kindN c = 0
        · rw [show kindI (kindN c) = -1 from by unfold kindI; rw [if_pos ek]]
          exact ⟨fun z => absurd rfl z, fun _ => ⟨fun _ => h0 _ (if_pos ek) (fm_rfl.ui 34 17 _), fun z => absurd rfl z⟩⟩
        · rw [show kindI (kindN c) = nI (kindN c) from by unfold kindI; rw [if_neg ek]]
          have := kindN_le c
          have hm := nI_m1 (kindN c) (by omega)
          refine ⟨fun _ => ⟨fun z => absurd z hm, fun _ => h1 _ _ (if_neg ek) ?_ (fm_rfl.ui 34 17 _)⟩, fun z => absurd z hm⟩
          refine ⟨?_, ?_, ?_, ?_, ?_, fun g hg => ?_, fun g p hp => ?_⟩
          · simp [ui_at, r1]
          · simp [ui_at, r2, gM]
          · simp [ui_at, r3, e2]
          · simp [ui_at, va_up]
          · simp [ui_at, r5, e2]
          · simp [gM] at hg
            have hgn : g ≠ ng := by omega
            simp [ui_at, r6 g hg, va_up, hgn]
          · obtain ⟨hp1, hp2, hp3⟩ := hp
            simp only at hp1 hp2 hp3
            have hgn : g ≠ ng := fun e => by have := hp3 (by omega) (by omega); omega
            simp only [ui_at]
            rw [if_neg (by omega)]
            refine r7 g p ⟨?_, ?_, fun _ q => ?_⟩
            · show g < ng; omega
            · simp only [va_up, hgn, if_false] at hp2; exact hp2
            · simp only at q; omega
      · have e1 : ph = 1 := by omega
        simp only [if_pos e1] at h0 h1
        simp only [if_neg (show ¬ 2 ≤ ph by omega)]
        refine ⟨fun z => absurd rfl z, fun _ => pk_ne c 59 (fun e => h0 _ (by rw [if_neg (by omega)]) (fm_rfl.ui 34 16 _)) (fun e => pk_le 8 ng (fun e4 => h0 _ (by rw [if_neg (by omega)]) (fm_rfl.ui 34 16 _)) (fun e4 => h1 _ _ (if_pos ⟨e, e4⟩) ?_ (fm_rfl.ui 34 16 _)))⟩
        refine ⟨?_, ?_, ?_, ?_, ?_, fun g hg => ?_, fun g p hp => ?_⟩
        · simp [ui_at, r1]
        · simp [ui_at, r2, gM]
        · simp [ui_at]; rfl
        · simp [ui_at, r4]
        · simp [ui_at, r5, e1]
        · simp [gM] at hg
          simp [ui_at, r6 g hg]
        · simp only [ui_at]
          rw [if_neg (by omega)]
          exact r7 g p ⟨hp.1, hp.2.1, fun _ q => by simp only at q; omega⟩
  · have hph : ph = 0 := Decidable.byContradiction fun q => by have := k3 q; omega
    simp only [if_pos hph] at h0 h1
    refine sp_within 49 52 (by omega) (by omega) (by omega) ?_
    by_cases e : 49 ≤ c ∧ c ≤ 52
    · rw [if_pos e, subI (b := 48) (by omega)]
      refine ⟨fun z => absurd z (by decide), fun _ => pk_le (c - 48) 0 (fun z => absurd z (by omega)) (fun _ => h1 _ _ (if_pos e) ?_ (fm_rfl.ui 34 14 _))⟩
      have hng := (k2 hph).2
      refine ⟨?_, ?_, ?_, ?_, ?_, fun g hg => absurd hg (by simp [gM]), fun g p hp => absurd hp.1 (by simp)⟩
      · simp [ui_at]
      · simp [ui_at, r2, gM, hph, hng]
      · simp [ui_at, r3, hph]
      · simp [ui_at, r4, hph]
      · simp [ui_at, r5, hph]
    · rw [if_neg e]
      exact ⟨fun _ => ⟨fun _ => h0 _ (by rw [if_neg e]) (fm_rfl.ui 34 14 _), fun z => absurd (by decide) z⟩, fun z => absurd rfl z⟩
