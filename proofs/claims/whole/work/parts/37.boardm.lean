section BM
variable {G : gp_G} {N : Nat} {A : gPS} {s : gp_S}
theorem sp_mayM {f : Int32 → gp_S → Prop} {g d : Nat} (hA : okA A) (hr : rM A s) (hph : A.1 = 1) (hg : g < A.2.2.1) (hd : d < 12) (h1 : (d < A.2.1 + A.2.2.1 ∧ (d < A.2.1 + g ∨ A.2.2.2.1 g = 5 ∨ (A.2.1 ≤ d ∧ A.2.2.2.1 (d - A.2.1) = 5))) → f 1 s) (h0 : ¬ (d < A.2.1 + A.2.2.1 ∧ (d < A.2.1 + g ∨ A.2.2.2.1 g = 5 ∨ (A.2.1 ≤ d ∧ A.2.2.2.1 (d - A.2.1) = 5))) → f 0 s) : cl_X10_mayDrive G N (nI g) (nI d) f s := by
  obtain ⟨k1, k2, k3, k4, k5, k6, k7, k8, k9, k10⟩ := hA
  have hgm : gM A = A.2.2.1 := by unfold gM; rw [if_neg (by omega)]
  obtain ⟨r1, r2, r3, r4, r5, r6, r7⟩ := hr
  rw [hgm] at r2 r6
  refine sg_X10_mayDrive _ _ ?_
  rw [r1, r2]
  by_cases e : d < A.2.1
  · have hneg : ¬ (0 : Int32) ≤ nI d - nI A.2.1 := by
      have := pk_sneg (a := d) (b := A.2.1) (by omega) e
      exact fun q => absurd this (Int32.not_lt.mpr q)
    exact ⟨fun q => absurd q hneg, fun _ => h1 ⟨by omega, Or.inl (by omega)⟩⟩
  · rw [pk_sub (show A.2.1 ≤ d by omega), nI_clamp (by omega), nI_clamp (by omega), r6 g hg]
    have hkg := k8 g hg
    refine ⟨fun _ => ⟨vp_in_nI (by omega) (by omega), ?_⟩, fun q => absurd (nI_pos' (by omega)) q⟩
    refine pk_eq (A.2.2.2.1 g) 5 (fun e5 => pk_le A.2.2.1 (d - A.2.1) (fun q => h0 (fun z => by omega)) (fun q => ⟨fun _ => h1 ⟨by omega, Or.inr (Or.inl e5)⟩, fun z => absurd z (by decide)⟩)) (fun e5 => pk_le g (d - A.2.1) (fun q => pk_le A.2.2.1 (d - A.2.1) (fun q2 => h0 (fun z => by omega)) (fun q2 => ⟨fun z => absurd rfl z, fun _ => ⟨vp_in_nI (by omega) (by omega), ?_⟩⟩)) (fun q => pk_le A.2.2.1 (d - A.2.1) (fun q2 => h0 (fun z => by omega)) (fun q2 => ⟨fun _ => h1 ⟨by omega, Or.inl (by omega)⟩, fun z => absurd z (by decide)⟩)))
    rw [r6 (d - A.2.1) (by omega)]
    have hk2 := k8 (d - A.2.1) (by omega)
    refine pk_ne (A.2.2.2.1 (d - A.2.1)) 5 (fun e6 => h0 (fun z => ?_)) (fun e6 => h1 ⟨by omega, Or.inr (Or.inr ⟨by omega, e6⟩)⟩)
    rcases z.2 with z | z | z
    · omega
    · exact e5 z
    · exact e6 z.2
theorem sp_isB {f : Int32 → gp_S → Prop} {pl : Nat} {cs : Nat → Nat} (hP : okP pl cs) (hg : pgM pl cs s) (h0 : ∀ k A s', stopP pl cs k A → ¬ goodA pl k A → fm pM s s' → f 0 s') (h1 : ∀ k A s', stopP pl cs k A → goodA pl k A → rM A s' → fm pM s s' → f 1 s') : cl_X10_isBoard G (N + 5) f s := by
  have hpl := hP.1
  refine sg_X10_isBoard (sp_goM hP hg (fun k A s1 hk hr hf => ?_))
  have hA := prs_ok hk.2.1
  have hkl : k ≤ pl := hk.1
  obtain ⟨k1, k2, k3, k4, k5, k6, k7, k8, k9, k10⟩ := id hA
  have e0 : s1.1 34 0 = nI pl := (hf.i 34 0).trans hg.1
  -- with 0 it ends with 0
  have zero : ¬ goodA pl k A → ∀ y : Int32, at_X10_isBoard_40 G (N + 5) 0 y f s1 := fun ng y => sg_X10_isBoard_40 _ _ ⟨fun _ => ⟨Or.inl rfl, h0 k A s1 hk ng hf⟩, fun _ => ⟨fun _ => ⟨Or.inl rfl, h0 k A s1 hk ng hf⟩, fun q => absurd rfl q⟩⟩
  rw [e0]
  refine pk_ne k pl (fun e => zero (fun g => e g.1) 0) (fun e => ?_)
  have hr := hr e
  obtain ⟨r1, r2, r3, r4, r5, r6, r7⟩ := id hr
  rw [r2, r3, r4]
  have hgl : gM A ≤ 8 := by unfold gM; split <;> omega
  have hk17 : (if 3 ≤ A.1 then A.2.2.2.1 (A.2.2.1 - 1) else 0) < 2 ^ 31 := by
    split
    · have := k8 (A.2.2.1 - 1) (by have := k7 (by assumption); omega); omega
    · omega
  refine pk_le (gM A) 0 (fun q => zero (fun g => ?_) 0) (fun q => ⟨fun e2 => zero (fun g => ?_) 0, fun e2 => ⟨fun e3 => zero (fun g => ?_) 0, fun e3 => ?_⟩⟩)
  · have h1 := g.2.1
    have h2 := g.2.2.1
    unfold gM at q
    rw [if_neg (by omega)] at q
    omega
  · rw [if_neg (by have := g.2.1; omega)] at e2
    exact e2 rfl
  · rw [if_neg (by have := g.2.1; omega)] at e3
    exact e3 rfl
  · have hph : A.1 = 1 := by
      have a2 : ¬ 2 ≤ A.1 := fun z => by rw [if_pos z] at e2; exact absurd e2 (by decide)
      have a0 : A.1 ≠ 0 := fun z => by
        have := (k2 z).2
        unfold gM at q
        rw [if_neg (by omega)] at q
        omega
      omega
    have hgm : gM A = A.2.2.1 := by unfold gM; rw [if_neg (by omega)]
    rw [hgm] at r2 r6 q
    have key : ∀ (m g : Nat), g + m = A.2.2.1 → (∀ g' p, g' < g → p < pinsN (A.2.2.2.1 g') → A.2.2.2.2 (2 * g' + p) < A.2.1 + A.2.2.1 ∧ (A.2.2.2.2 (2 * g' + p) < A.2.1 + g' ∨ A.2.2.2.1 g' = 5 ∨ (A.2.1 ≤ A.2.2.2.2 (2 * g' + p) ∧ A.2.2.2.1 (A.2.2.2.2 (2 * g' + p) - A.2.1) = 5))) → at_X10_isBoard_40 G (N + 5) 1 (nI g) f s1 := by
      intro m
      induction m with
      | zero =>
        intro g hgg hall
        refine sg_X10_isBoard_40 _ _ ?_
        rw [r2]
        exact pk_le A.2.2.1 g (fun _ => ⟨Or.inr rfl, h1 k A s1 hk ⟨e, hph, by omega, fun g' p hg' hp => hall g' p (by omega) hp⟩ hr hf⟩) (fun q => absurd q (by omega))
      | succ m ih =>
        intro g hgg hall
        refine sg_X10_isBoard_40 _ _ ?_
        rw [r2]
        refine pk_le A.2.2.1 g (fun q => absurd q (by omega)) (fun _ => ⟨fun q => absurd q (by decide), fun _ => ?_⟩)
        have hkg := k8 g (by omega)
        have hp2 := @pins_le (A.2.2.2.1 g)
        have hin : vp_in (nI g) 8 := vp_in_nI (by omega) (by omega)
        have skip : ¬ drvP A → ∀ (d p : Nat), p + d = pinsN (A.2.2.2.1 g) → at_X10_isBoard_54 G (N + 5) 0 (nI g) (nI p) f s1 := by
          intro nd d
          induction d with
          | zero =>
            intro p hp
            refine sg_X10_isBoard_54 _ _ _ ⟨hin, ?_⟩
            rw [nI_clamp (by omega), r6 g (by omega)]
            exact sp_pinsM hkg.2 (pk_le (pinsN (A.2.2.2.1 g)) p (fun _ => zero (fun z => nd z.2.2.2) _) (fun q => absurd q (by omega)))
          | succ d ihd =>
            intro p hp
            refine sg_X10_isBoard_54 _ _ _ ⟨hin, ?_⟩
            rw [nI_clamp (by omega), r6 g (by omega)]
            refine sp_pinsM hkg.2 ?_
            rw [nI_1 p]
            exact pk_le (pinsN (A.2.2.2.1 g)) p (fun q => absurd q (by omega)) (fun _ => ⟨fun _ => ihd (p + 1) (by omega), fun q => absurd rfl q⟩)
        have inner : ∀ (d p : Nat), p + d = pinsN (A.2.2.2.1 g) → (∀ p', p' < p → A.2.2.2.2 (2 * g + p') < A.2.1 + A.2.2.1 ∧ (A.2.2.2.2 (2 * g + p') < A.2.1 + g ∨ A.2.2.2.1 g = 5 ∨ (A.2.1 ≤ A.2.2.2.2 (2 * g + p') ∧ A.2.2.2.1 (A.2.2.2.2 (2 * g + p') - A.2.1) = 5))) → at_X10_isBoard_54 G (N + 5) 1 (nI g) (nI p) f s1 := by
          intro d
          induction d with
          | zero =>
            intro p hp hpp
            refine sg_X10_isBoard_54 _ _ _ ⟨hin, ?_⟩
            rw [nI_clamp (by omega), r6 g (by omega)]
            refine sp_pinsM hkg.2 ?_
            rw [nI_1 g]
            refine pk_le (pinsN (A.2.2.2.1 g)) p (fun _ => ih (g + 1) (by omega) (fun g' p' hg' hp' => ?_)) (fun q => absurd q (by omega))
            by_cases e : g' = g
            · rw [e] at hp' ⊢; exact hpp p' (by omega)
            · exact hall g' p' (by omega) hp'
          | succ d ihd =>
            intro p hp hpp
            refine sg_X10_isBoard_54 _ _ _ ⟨hin, ?_⟩
            rw [nI_clamp (show g < 2 ^ 31 by omega), r6 g (by omega)]
            refine sp_pinsM hkg.2 ?_
            rw [nI_1 p, mulI (b := 2), nI_add, nI_clamp (by omega), r7 g p ⟨by omega, by omega, fun _ z => by omega⟩]
            refine pk_le (pinsN (A.2.2.2.1 g)) p (fun q => absurd q (by omega)) (fun _ => ⟨fun q => absurd q (by decide), fun _ => ⟨vp_in_nI (by omega) (by omega), ?_⟩⟩)
            refine sp_mayM hA hr hph (by omega) (k10 _) (fun z => ⟨fun q => absurd q (by decide), fun _ => ihd (p + 1) (by omega) (fun p' hp' => ?_)⟩) (fun z => ⟨fun _ => skip (fun w => z (w g p (by omega) (by omega))) d (p + 1) (by omega), fun q => absurd rfl q⟩)
            by_cases e : p' = p
            · rw [e]; exact z
            · exact hpp p' (by omega)
        exact inner (pinsN (A.2.2.2.1 g)) 0 (by omega) (fun p' hp' => absurd hp' (Nat.not_lt_zero p'))
    exact key A.2.2.1 0 (by omega) (fun g' p hg' => absurd hg' (Nat.not_lt_zero g'))
def pBo (a k : Nat) : Bool := a == 36 || a == 37 || a == 39 || a == 40 || (a == 34 && (k == 2 || k == 3 || k == 14 || k == 15 || k == 16 || k == 17 || k == 18))
theorem IM.scratch {a : gA} {s' : gp_S} (h : IM a s) (hf : fm pM s s') : IM a s' := by
  obtain ⟨i1, i2, i3, i4, i5, i6, i7, i8⟩ := h
  exact ⟨i1.fm hf, i2.fm hf, i3.fm hf, i4.fm hf, i5.fm hf, i6.fm hf, i7.fm hf, i8.fm hf⟩
theorem ms_board {f : Int32 → gp_S → Prop} {pl : Nat} {cs : Nat → Nat} {B : gB} {T : gT} {h : Nat} {LF : Nat × Nat} {c1 c2 c3 : Int32} (ok : okG ((pl, cs), B, T, h, LF, c1, c2, c3)) (im : IM ((pl, cs), B, T, h, LF, c1, c2, c3) s)
    (h0 : ∀ k A s', stopP pl cs k A → ¬ goodA pl k A → keepX s s' → IM ((pl, cs), B, T, h, LF, c1, c2, c3) s' → f (-1003) s')
    (h1 : ∀ k A s', stopP pl cs k A → goodA pl k A → keepX s s' → IM ((0, cs), mkB A, T, 0, (0, 0), c1 + 1, c2, c3) s' → f (nI (A.2.1 + A.2.2.1)) s') : cl_X10_board G (N + 6) f s := by
  obtain ⟨o1, o2, o3, o4, o5⟩ := ok
  have im0 := im
  obtain ⟨i1, i2, i3, i4, i5, i6, i7, i8⟩ := im
  have kp : ∀ s', fm pM s s' → keepX s s' := fun s' hf => hf.keepX (fun a k ha => by simp only [pM, Bool.or_eq_false_iff, Bool.and_eq_false_iff, beq_eq_false_iff_ne]; omega)
  refine sg_X10_board (sp_isB o1 i1 (fun k A s1 hk ng hf => ⟨fun z => absurd rfl z, fun _ => h0 k A s1 hk ng (kp s1 hf) (im0.scratch hf)⟩) (fun k A s1 hk gd hr hf => ⟨fun _ => ?_, fun z => absurd z (by decide)⟩))
  have hA := prs_ok hk.2.1
  obtain ⟨k1, k2, k3, k4, k5, k6, k7, k8, k9, k10⟩ := id hA
  obtain ⟨r1, r2, r3, r4, r5, r6, r7⟩ := id hr
  have hph := gd.2.1
  have hgm : gM A = A.2.2.1 := by unfold gM; rw [if_neg (by omega)]
  rw [hgm] at r2 r6
  have hB := mkB_ok hA gd.2.2.2
  rw [r1, r2, nI_add]
  have j := im0.scratch hf
  obtain ⟨j1, j2, j3, j4, j5, j6, j7, j8⟩ := j
  have hfa : fm pBo s (gp_ui (gp_ui s1 34 2 (nI A.2.1)) 34 3 (nI (A.2.1 + A.2.2.1))) := ((hf.mono (sub_bool (by intro a k; simp only [pM, pBo, Bool.or_eq_true, beq_iff_eq, Bool.and_eq_true, decide_eq_true_eq]; omega))).ui 34 2 _).ui 34 3 _
  have outer : ∀ (m n : Nat) (s2 : gp_S), n + m = A.2.1 + A.2.2.1 → fm pBo s s2 → s2.1 34 2 = nI A.2.1 → s2.1 34 3 = nI (A.2.1 + A.2.2.1) → (∀ j, s2.1 39 j = s1.1 39 j) → (∀ j, s2.1 40 j = s1.1 40 j) → (∀ n', n' < n → s2.1 36 n' = nI (bK (mkB A) n') ∧ ∀ p, p < 2 → s2.1 37 (2 * n' + p) = if p < pinsN (bK (mkB A) n') then nI (bD (mkB A) (2 * n' + p)) else -1) → at_X10_board_34 G (N + 6) (nI n) f s2 := by
    intro m
    induction m with
    | zero =>
      intro n s2 hn hf2 e2 e3 e39 e40 hdone
      refine sg_X10_board_34 _ ?_
      rw [e3]
      refine pk_le (A.2.1 + A.2.2.1) n (fun _ => ?_) (fun q => absurd q (by omega))
      have hfb : fm (fun a k => a == 34 && (k == 0 || k == 8 || k == 11)) s2 (gp_ui (gp_ui (gp_ui s2 34 8 0) 34 11 (s2.1 34 11 + 1)) 34 0 0) := ((fm_rfl.ui 34 8 _).ui 34 11 _).ui 34 0 _
      have hbm : bM (mkB A) s2 := ⟨e2, e3, fun n' hn' => (hdone n' (by have : n' < A.2.1 + A.2.2.1 := hn'; omega)).1, fun n' p hn' hp => (hdone n' (by have : n' < A.2.1 + A.2.2.1 := hn'; omega)).2 p hp⟩
      have htm : tM T s2 := i3.fm hf2
      refine sp_begins (h := 0) (N := N) hB o3 (Or.inl rfl) (hbm.fm hfb) (htm.fm hfb) (by simp [ui_at]; rfl) (fun s4 hf4 q1 q2 q3 q4 q5 q6 => ?_)
      have e33 : s4.1 34 3 = nI (A.2.1 + A.2.2.1) := by rw [hf4.i 34 3, hfb.i 34 3]; exact e3
      rw [e33]
      refine h1 k A s4 hk gd ?_ ⟨⟨?_, fun i hi => absurd hi (Nat.not_lt_zero i)⟩, (hbm.fm hfb).fm hf4, (htm.fm hfb).fm hf4, ⟨?_, ?_, ?_, ?_, q5, q6⟩, q2, q3, q1, q4⟩
      · refine ((hf2.keepX (fun a k ha => ?_)).trans (hfb.keepX (fun a k ha => ?_))).trans (hf4.keepX (fun a k ha => ?_))
        · simp only [pBo, Bool.or_eq_false_iff, Bool.and_eq_false_iff, beq_eq_false_iff_ne]; omega
        · simp only [Bool.or_eq_false_iff, Bool.and_eq_false_iff, beq_eq_false_iff_ne]; omega
        · simp only [pBe, Bool.or_eq_false_iff, Bool.and_eq_false_iff, beq_eq_false_iff_ne]; omega
      · rw [hf4.i 34 0]; simp [ui_at]; rfl
      · rw [hf4.i 34 8]; simp [ui_at]; rfl
      · rw [hf4.i 34 11]; simp [ui_at]; rw [hf2.i 34 11, i4.2.1]
      · rw [hf4.i 34 12, hfb.i 34 12, hf2.i 34 12]; exact i4.2.2.1
      · rw [hf4.i 34 13, hfb.i 34 13, hf2.i 34 13]; exact i4.2.2.2.1
    | succ m ih =>
      intro n s2 hn hf2 e2 e3 e39 e40 hdone
      have hin : vp_in (nI n) 12 := vp_in_nI (by omega) (by omega)
      have hk5 := hB.2.2.2.1 n (show n < A.2.1 + A.2.2.1 by omega)
      refine sg_X10_board_34 _ ?_
      rw [e3, e2, nI_clamp (show n < 2 ^ 31 by omega)]
      refine pk_le (A.2.1 + A.2.2.1) n (fun q => absurd q (by omega)) (fun _ => ?_)
      have inner : ∀ (s3 : gp_S), fm pBo s s3 → s3.1 34 2 = nI A.2.1 → s3.1 34 3 = nI (A.2.1 + A.2.2.1) → (∀ j, s3.1 39 j = s1.1 39 j) → (∀ j, s3.1 40 j = s1.1 40 j) → (∀ n', n' < n → s3.1 36 n' = nI (bK (mkB A) n') ∧ ∀ p, p < 2 → s3.1 37 (2 * n' + p) = if p < pinsN (bK (mkB A) n') then nI (bD (mkB A) (2 * n' + p)) else -1) → s3.1 36 n = nI (bK (mkB A) n) → at_X10_board_71 G (N + 6) (nI n) (nI n - nI A.2.1) 0 f s3 := by
        intro s3 hf3 e2 e3 e39 e40 hdone hkn
        have go : ∀ (d p : Nat) (s4 : gp_S), p + d = 2 → fm pBo s s4 → s4.1 34 2 = nI A.2.1 → s4.1 34 3 = nI (A.2.1 + A.2.2.1) → (∀ j, s4.1 39 j = s1.1 39 j) → (∀ j, s4.1 40 j = s1.1 40 j) → (∀ n', n' < n → s4.1 36 n' = nI (bK (mkB A) n') ∧ ∀ p, p < 2 → s4.1 37 (2 * n' + p) = if p < pinsN (bK (mkB A) n') then nI (bD (mkB A) (2 * n' + p)) else -1) → s4.1 36 n = nI (bK (mkB A) n) → (∀ p', p' < p → s4.1 37 (2 * n + p') = if p' < pinsN (bK (mkB A) n) then nI (bD (mkB A) (2 * n + p')) else -1) → at_X10_board_71 G (N + 6) (nI n) (nI n - nI A.2.1) (nI p) f s4 := by
          intro d
          induction d with
          | zero =>
            intro p s4 hp hf4 e2 e3 e39 e40 hdone hkn hpp
            refine sg_X10_board_71 _ _ _ ?_
            rw [nI_1 n]
            refine pk_le 2 p (fun _ => ih (n + 1) s4 (by omega) hf4 e2 e3 e39 e40 (fun n' hn' => ?_)) (fun q => absurd q (by omega))
            by_cases e : n' = n
            · rw [e]; exact ⟨hkn, fun p' hp' => hpp p' (by omega)⟩
            · exact hdone n' (by omega)
          | succ d ihd =>
            intro p s4 hp hf4 e2 e3 e39 e40 hdone hkn hpp
            refine sg_X10_board_71 _ _ _ ?_
            rw [nI_1 p, nI_clamp (show n < 2 ^ 31 by omega), hkn]
            refine pk_le 2 p (fun q => absurd q (by omega)) (fun _ => ⟨hin, sp_pinsM hk5 ?_⟩)
            rw [mulI (b := 2), nI_add, nI_clamp (show 2 * n + p < 2 ^ 31 by omega)]
            have hnext : ∀ x : Int32, x = (if p < pinsN (bK (mkB A) n) then nI (bD (mkB A) (2 * n + p)) else -1) → at_X10_board_71 G (N + 6) (nI n) (nI n - nI A.2.1) (nI (p + 1)) f (gp_ui s4 37 (2 * n + p) x) := by
              intro x hx
              refine ihd (p + 1) _ (by omega) (hf4.ui 37 _ _) (by rw [ui_at, if_neg (by omega)]; exact e2) (by rw [ui_at, if_neg (by omega)]; exact e3) (fun j => by rw [ui_at, if_neg (by omega)]; exact e39 j) (fun j => by rw [ui_at, if_neg (by omega)]; exact e40 j) (fun n' hn' => ⟨by rw [ui_at, if_neg (by omega)]; exact (hdone n' hn').1, fun p' hp' => by rw [ui_at, if_neg (by omega)]; exact (hdone n' hn').2 p' hp'⟩) (by rw [ui_at, if_neg (by omega)]; exact hkn) (fun p' hp' => ?_)
              rw [ui_at]
              by_cases e : p' = p
              · rw [if_pos ⟨rfl, by omega⟩, e]; exact hx
              · rw [if_neg (by omega)]; exact hpp p' (by omega)
            have hp2 := @pins_le (bK (mkB A) n)
            refine pk_le (pinsN (bK (mkB A) n)) p (fun q => ⟨vp_in_nI (by omega) (by omega), hnext _ (by rw [if_neg (by omega)])⟩) (fun q => ?_)
            have hnge : A.2.1 ≤ n := by
              apply Nat.not_lt.mp
              intro z
              have : bK (mkB A) n = 0 := by show (if n < A.2.1 then 0 else _) = 0; rw [if_pos z]
              rw [this, pinsN_0] at q
              omega
            have hkv : bK (mkB A) n = A.2.2.2.1 (n - A.2.1) := by show (if n < A.2.1 then 0 else _) = _; rw [if_neg (by omega)]
            rw [pk_sub hnge, mulI (b := 2), nI_add, nI_clamp (show 2 * (n - A.2.1) + p < 2 ^ 31 by omega), e40]
            rw [r7 (n - A.2.1) p ⟨by omega, by rw [← hkv]; exact q, fun _ z => by omega⟩]
            have hh := hnext (nI (A.2.2.2.2 (2 * (n - A.2.1) + p))) (by
              rw [if_pos q]
              show _ = nI (A.2.2.2.2 (2 * n + p - 2 * A.2.1))
              rw [show 2 * n + p - 2 * A.2.1 = 2 * (n - A.2.1) + p from by omega])
            rw [pk_sub hnge] at hh
            exact ⟨vp_in_nI (by omega) (by omega), vp_in_nI (by omega) (by omega), hh⟩
        exact go 2 0 s3 rfl hf3 e2 e3 e39 e40 hdone hkn (fun p' hp' => absurd hp' (Nat.not_lt_zero p'))
      by_cases e : n < A.2.1
      · have hneg : ¬ (0 : Int32) ≤ nI n - nI A.2.1 := by
          have := pk_sneg (a := n) (b := A.2.1) (by omega) e
          exact fun q => absurd this (Int32.not_lt.mpr q)
        refine ⟨fun q => absurd q hneg, fun _ => ⟨hin, inner _ (hf2.ui 36 _ _) ?_ ?_ (fun j => ?_) (fun j => ?_) (fun n' hn' => ⟨?_, fun p hp => ?_⟩) ?_⟩⟩
        · rw [ui_at, if_neg (by omega)]; exact e2
        · rw [ui_at, if_neg (by omega)]; exact e3
        · rw [ui_at, if_neg (by omega)]; exact e39 j
        · rw [ui_at, if_neg (by omega)]; exact e40 j
        · rw [ui_at, if_neg (by omega)]; exact (hdone n' hn').1
        · rw [ui_at, if_neg (by omega)]; exact (hdone n' hn').2 p hp
        · rw [ui_at, if_pos ⟨rfl, rfl⟩]
          show 0 = nI (if n < A.2.1 then 0 else _)
          rw [if_pos e]; rfl
      · have hsub : nI n - nI A.2.1 = nI (n - A.2.1) := pk_sub (by omega)
        refine ⟨fun _ => ?_, fun q => absurd (by rw [hsub]; exact nI_pos' (by omega)) q⟩
        have h8' : vp_in (nI n - nI A.2.1) 8 := by rw [hsub]; exact vp_in_nI (by omega) (by omega)
        refine ⟨h8', hin, inner _ (hf2.ui 36 _ _) ?_ ?_ (fun j => ?_) (fun j => ?_) (fun n' hn' => ⟨?_, fun p hp => ?_⟩) ?_⟩
        · rw [ui_at, if_neg (by omega)]; exact e2
        · rw [ui_at, if_neg (by omega)]; exact e3
        · rw [ui_at, if_neg (by omega)]; exact e39 j
        · rw [ui_at, if_neg (by omega)]; exact e40 j
        · rw [ui_at, if_neg (by omega)]; exact (hdone n' hn').1
        · rw [ui_at, if_neg (by omega)]; exact (hdone n' hn').2 p hp
        · rw [ui_at, if_pos ⟨rfl, rfl⟩, hsub, nI_clamp (by omega), e39, r6 _ (by omega)]
          show _ = nI (if n < A.2.1 then 0 else _)
          rw [if_neg e]
  refine outer (A.2.1 + A.2.2.1) 0 _ (by omega) hfa ?_ ?_ (fun j => ?_) (fun j => ?_) (fun n' hn' => absurd hn' (Nat.not_lt_zero n'))
  · simp [ui_at]
  · simp [ui_at]
  · rw [ui_at, if_neg (by omega), ui_at, if_neg (by omega)]
  · rw [ui_at, if_neg (by omega), ui_at, if_neg (by omega)]
end BM
