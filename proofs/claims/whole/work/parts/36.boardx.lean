section BX
variable {G : gp_G} {N : Nat} {A : gPS} {s : gp_S}
theorem rX_kind {n : Nat} (hA : okA A) (hr : rX A s) (hn : n < A.2.1 + A.2.2.1) : s.1 7 n = nI (bK (mkB A) n) := by
  show _ = nI (if n < A.2.1 then 0 else A.2.2.2.1 (n - A.2.1))
  split
  · exact hr.2.2.2.2.1 n (by assumption)
  · have := hr.2.2.2.2.2.1 (n - A.2.1) (by omega)
    rwa [show A.2.1 + (n - A.2.1) = n from by omega] at this
theorem sp_drvD {f : Int32 → gp_S → Prop} {g p : Nat} (hA : okA A) (hr : rX A s) (h1 : A.1 = 1) (hg : g < A.2.2.1) (hp : p < pinsN (A.2.2.2.1 g)) (h : f (nI (A.2.2.2.2 (2 * g + p))) s) : cl_X0_driver_o6 G (N + 1) (nI (A.2.1 + g)) (nI p) f s := by
  obtain ⟨k1, k2, k3, k4, k5, k6, k7, k8, k9, k10⟩ := hA
  have hp2 := @pins_le (A.2.2.2.1 g)
  refine sg_X0_driver_o6 _ _ (sp_pinsD (k := A.2.2.2.1 g) (by omega) (k8 g hg).2 (hr.2.2.2.2.2.1 g hg) ?_)
  rw [mulI (b := 2), nI_add, nI_clamp (by omega)]
  refine pk_le (pinsN (A.2.2.2.1 g)) p (fun q => absurd q (by omega)) (fun q => ⟨vp_in_nI (by omega) (by omega), ?_⟩)
  rw [hr.2.2.2.2.2.2 g p ⟨hg, hp, fun _ q => by omega⟩]
  exact h
theorem sp_mayD {f : Int32 → gp_S → Prop} {g d : Nat} (hA : okA A) (hr : rX A s) (hg : g < A.2.2.1) (hd : d < 12) (h1 : (d < A.2.1 + A.2.2.1 ∧ (d < A.2.1 + g ∨ A.2.2.2.1 g = 5 ∨ (A.2.1 ≤ d ∧ A.2.2.2.1 (d - A.2.1) = 5))) → f 1 s) (h0 : ¬ (d < A.2.1 + A.2.2.1 ∧ (d < A.2.1 + g ∨ A.2.2.2.1 g = 5 ∨ (A.2.1 ≤ d ∧ A.2.2.2.1 (d - A.2.1) = 5))) → f 0 s) : cl_X0_mayDrive_o6 G (N + 1) (nI d) (nI (A.2.1 + g)) f s := by
  have hA' := hA
  obtain ⟨k1, k2, k3, k4, k5, k6, k7, k8, k9, k10⟩ := hA
  refine sg_X0_mayDrive_o6 _ _ (sg_X0_has_o6 _ ⟨fun q => absurd q (nI_pos (by omega)), fun _ => ?_⟩)
  rw [hr.2.1]
  refine pk_le (A.2.1 + A.2.2.1) d (fun q => ⟨fun _ => h0 (fun z => by omega), fun z => absurd rfl z⟩) (fun q => ⟨fun z => absurd z (by decide), fun _ => pk_lt d (A.2.1 + g) (fun e => h1 ⟨q, Or.inl e⟩) (fun e => ⟨vp_in_nI (by omega) (by omega), ?_⟩)⟩)
  rw [nI_clamp (by omega), nI_clamp (by omega), hr.2.2.2.2.2.1 g hg, rX_kind hA' hr q]
  have hkg := k8 g hg
  have hkd : bK (mkB A) d = if d < A.2.1 then 0 else A.2.2.2.1 (d - A.2.1) := rfl
  have e2 : A.2.1 ≤ d := by omega
  rw [if_neg (by omega)] at hkd
  rw [hkd]
  have hk2 := k8 (d - A.2.1) (by omega)
  refine pk_eq (A.2.2.2.1 g) 5 (fun e5 => h1 ⟨q, Or.inr (Or.inl e5)⟩) (fun e5 => ⟨vp_in_nI (by omega) (by omega), pk_ne (A.2.2.2.1 (d - A.2.1)) 5 (fun e6 => h0 (fun z => ?_)) (fun e6 => h1 ⟨q, Or.inr (Or.inr ⟨e2, e6⟩)⟩)⟩)
  rcases z.2 with z | z | z
  · omega
  · exact e5 z
  · exact e6 z.2
theorem sp_drvAll {f : Int32 → gp_S → Prop} (hA : okA A) (hr : rX A s) (hph : A.1 = 1) (h1 : drvP A → f 1 s) (h0 : ¬ drvP A → f 0 s) : cl_X0_isDrivenRightly_o6 G (N + 2) f s := by
  have hA' := hA
  obtain ⟨k1, k2, k3, k4, k5, k6, k7, k8, k9, k10⟩ := hA
  have key : ∀ (m g : Nat), g + m = A.2.2.1 → (∀ g' p, g' < g → p < pinsN (A.2.2.2.1 g') → A.2.2.2.2 (2 * g' + p) < A.2.1 + A.2.2.1 ∧ (A.2.2.2.2 (2 * g' + p) < A.2.1 + g' ∨ A.2.2.2.1 g' = 5 ∨ (A.2.1 ≤ A.2.2.2.2 (2 * g' + p) ∧ A.2.2.2.1 (A.2.2.2.2 (2 * g' + p) - A.2.1) = 5))) → at_X0_isDrivenRightly_o6_5 G (N + 2) (nI (A.2.1 + g)) f s := by
    intro m
    induction m with
    | zero =>
      intro g hg hall
      refine sg_X0_isDrivenRightly_o6_5 _ ?_
      rw [hr.2.1]
      exact pk_le (A.2.1 + A.2.2.1) (A.2.1 + g) (fun _ => h1 (fun g' p hg' hp => hall g' p (by omega) hp)) (fun q => absurd q (by omega))
    | succ m ih =>
      intro g hg hall
      refine sg_X0_isDrivenRightly_o6_5 _ ?_
      rw [hr.2.1]
      refine pk_le (A.2.1 + A.2.2.1) (A.2.1 + g) (fun q => absurd q (by omega)) (fun _ => ?_)
      have hkg := k8 g (by omega)
      have hp2 := @pins_le (A.2.2.2.1 g)
      have inner : ∀ (d p : Nat), p + d = pinsN (A.2.2.2.1 g) → (∀ p', p' < p → A.2.2.2.2 (2 * g + p') < A.2.1 + A.2.2.1 ∧ (A.2.2.2.2 (2 * g + p') < A.2.1 + g ∨ A.2.2.2.1 g = 5 ∨ (A.2.1 ≤ A.2.2.2.2 (2 * g + p') ∧ A.2.2.2.1 (A.2.2.2.2 (2 * g + p') - A.2.1) = 5))) → at_X0_isDrivenRightly_o6_15 G (N + 2) (nI (A.2.1 + g)) (nI p) f s := by
        intro d
        induction d with
        | zero =>
          intro p hp hpp
          refine sg_X0_isDrivenRightly_o6_15 _ _ (sp_pinsD (k := A.2.2.2.1 g) (by omega) hkg.2 (hr.2.2.2.2.2.1 g (by omega)) ?_)
          rw [nI_1 (A.2.1 + g)]
          refine pk_le (pinsN (A.2.2.2.1 g)) p (fun _ => ih (g + 1) (by omega) (fun g' p' hg' hp' => ?_)) (fun q => absurd q (by omega))
          by_cases e : g' = g
          · rw [e] at hp' ⊢; exact hpp p' (by omega)
          · exact hall g' p' (by omega) hp'
        | succ d ihd =>
          intro p hp hpp
          refine sg_X0_isDrivenRightly_o6_15 _ _ (sp_pinsD (k := A.2.2.2.1 g) (by omega) hkg.2 (hr.2.2.2.2.2.1 g (by omega)) ?_)
          rw [nI_1 p]
          refine pk_le (pinsN (A.2.2.2.1 g)) p (fun q => absurd q (by omega)) (fun _ => sp_drvD hA' hr hph (by omega) (by omega) ?_)
          refine sp_mayD hA' hr (by omega) (k10 _) (fun z => ⟨fun _ => ihd (p + 1) (by omega) (fun p' hp' => ?_), fun q => absurd q (by decide)⟩) (fun z => ⟨fun q => absurd rfl q, fun _ => h0 (fun q => z (q g p (by omega) (by omega)))⟩)
          by_cases e : p' = p
          · rw [e]; exact z
          · exact hpp p' (by omega)
      exact inner (pinsN (A.2.2.2.1 g)) 0 (by omega) (fun p' hp' => absurd hp' (Nat.not_lt_zero p'))
  refine sg_X0_isDrivenRightly_o6 ?_
  rw [hr.1]
  exact key A.2.2.1 0 (by omega) (fun g' p hg' => absurd hg' (Nat.not_lt_zero g'))
def pCp (a k : Nat) : Bool := a == 4 || a == 5 || (a == 3 && (k == 2 || k == 3))
theorem sp_copyX {f : gp_S → Prop} (hA : okA A) (hr : rX A s) (hph : A.1 = 1) (h : ∀ s', fm pCp s s' → bX (mkB A) s' → f s') : cl_X0_copyFrom_o3_o6 G (N + 1) f s := by
  have hA' := hA
  obtain ⟨k1, k2, k3, k4, k5, k6, k7, k8, k9, k10⟩ := hA
  refine sg_X0_copyFrom_o3_o6 (h _ ((((fm_rfl.ui 3 2 _).ui 3 3 _).ua 4 _).ua 5 _) ⟨?_, ?_, fun n hn => ?_, fun n p hn hp => ?_⟩)
  · show _ = nI A.2.1
    simp only [gp_ua]
    simp [ui_at, hr.1]
  · show _ = nI (A.2.1 + A.2.2.1)
    simp only [gp_ua]
    simp [ui_at, hr.2.1]
  · have hn : n < A.2.1 + A.2.2.1 := hn
    rw [← rX_kind hA' hr hn]
    simp only [gp_ua]
    simp only [show (4 : Nat) ≠ 5 by decide, if_false, if_true]
    rw [pk_cpy_in (by omega) (by omega)]
    simp [gp_ui]
  · have hn : n < A.2.1 + A.2.2.1 := hn
    have hk : bK (mkB A) n = if n < A.2.1 then 0 else A.2.2.2.1 (n - A.2.1) := rfl
    rw [hk] at hp
    by_cases e : n < A.2.1
    · rw [if_pos e, pinsN_0] at hp; omega
    · rw [if_neg e] at hp
      have hp2 := @pins_le (A.2.2.2.1 (n - A.2.1))
      have e3 : 2 * n + p - 2 * A.2.1 = 2 * (n - A.2.1) + p := by omega
      have := hr.2.2.2.2.2.2 (n - A.2.1) p ⟨by omega, hp, fun _ q => by omega⟩
      rw [show A.2.1 + (n - A.2.1) = n from by omega] at this
      show _ = nI (A.2.2.2.2 (2 * n + p - 2 * A.2.1))
      rw [e3, ← this]
      simp only [gp_ua, if_true]
      rw [pk_cpy_in (by omega) (by omega)]
      simp [gp_ui]
theorem IX.draft {a : gA} {s' : gp_S} (h : IX a s) (hf : fm pX s s') : IX a s' := by
  obtain ⟨i1, i2, i3, i4, i5, i6, i7, i8, i9, i10, i11, i12, i13⟩ := h
  exact ⟨i1.fm hf, i2.fm hf, i3.fm hf, i4.fm hf, i5.fm hf, i6.fm hf, i7.fm hf, by rw [hf.i 20 3]; exact i8.fm hf, i9.fm hf, i10.fm hf, i11.fm hf, i12.fm hf, i13.fm hf⟩
theorem xs_board {f : Int32 → gp_S → Prop} {pl : Nat} {cs : Nat → Nat} {B : gB} {T : gT} {h : Nat} {LF : Nat × Nat} {c1 c2 c3 : Int32} (ok : okG ((pl, cs), B, T, h, LF, c1, c2, c3)) (ix : IX ((pl, cs), B, T, h, LF, c1, c2, c3) s)
    (h0 : ∀ k A s', stopP pl cs k A → ¬ goodA pl k A → keepM s s' → IX ((pl, cs), B, T, h, LF, c1, c2, c3) s' → f (-1003) s')
    (h1 : ∀ k A s', stopP pl cs k A → goodA pl k A → keepM s s' → IX ((0, cs), mkB A, T, 0, (0, 0), c1 + 1, c2, c3) s' → f (nI (A.2.1 + A.2.2.1)) s') : cl_X9_board G (N + 18) f s := by
  obtain ⟨o1, o2, o3, o4, o5⟩ := ok
  have ix0 := ix
  obtain ⟨i1, i2, i3, i4, i5, i6, i7, i8, i9, i10, i11, i12, i13⟩ := ix
  refine sg_X9_board (sp_readX (N := N + 14) o1 i1 (fun k A s1 hk hr hf => ?_))
  have hA := prs_ok hk.2.1
  have ix1 := ix0.draft hf
  have kM : keepM s s1 := hf.keepM (fun a k ha => by simp only [pX, Bool.or_eq_false_iff, beq_eq_false_iff_ne]; omega)
  have e11 : s1.1 1 1 = nI pl := ix1.1.1
  have hpl := o1.1
  have hkl : k ≤ pl := hk.1
  simp only at hpl
  rw [e11]
  refine pk_lt k pl (fun q => h0 k A s1 hk (fun g => by have := g.1; omega) kM ix1) (fun q => ?_)
  refine sg_X0_isWhole_o6 ?_
  obtain ⟨k1, k2, k3, k4, k5, k6, k7, k8, k9, k10⟩ := id hA
  rw [hr.2.2.1, hr.2.1, hr.1]
  have bad : ¬ goodA pl k A → f (-1003) s1 := fun ng => h0 k A s1 hk ng kM ix1
  have e4 : (if A.1 = 4 then 3 else A.1) < 2 ^ 31 := by split <;> omega
  refine pk_ne (if A.1 = 4 then 3 else A.1) 1 (fun e => ⟨fun _ => bad (fun g => ?_), fun z => absurd rfl z⟩) (fun e => pk_le (A.2.1 + A.2.2.1) A.2.1 (fun e2 => ⟨fun _ => bad (fun g => ?_), fun z => absurd rfl z⟩) (fun e2 => ⟨fun z => absurd z (by decide), fun _ => ?_⟩))
  · have := g.2.1
    rw [if_neg (by omega)] at e
    exact e this
  · have := g.2.2.1; omega
  · have hph : A.1 = 1 := by split at e <;> omega
    refine sp_drvAll (N := N + 15) hA hr hph (fun hd => ⟨fun _ => ?_, fun z => absurd z (by decide)⟩) (fun hd => ⟨fun z => absurd rfl z, fun _ => bad (fun g => hd g.2.2.2)⟩)
    have hB := mkB_ok hA hd
    have hgood : goodA pl k A := ⟨by omega, hph, by omega, hd⟩
    refine sp_copyX hA hr hph (fun s2 hf2 hb2 => sg_X3_clear ?_)
    obtain ⟨j1, j2, j3, j4, j5, j6, j7, j8, j9, j10, j11, j12, j13⟩ := ix1
    have hf3 : fm (fun a k => a == 4 || a == 5 || (a == 3 && (k == 2 || k == 3)) || (a == 1 && k == 1) || (a == 0 && (k == 11 || k == 12))) s1 (gp_ui (gp_ui (gp_ui s2 1 1 0) 0 12 ((gp_ui s2 1 1 0).1 0 12 + 1)) 0 11 0) := (((hf2.mono (sub_bool (by intro a k; simp only [pCp, Bool.or_eq_true, beq_iff_eq, Bool.and_eq_true]; omega))).ui 1 1 _).ui 0 12 _).ui 0 11 _
    have hb3 : bX (mkB A) (gp_ui (gp_ui (gp_ui s2 1 1 0) 0 12 ((gp_ui s2 1 1 0).1 0 12 + 1)) 0 11 0) := hb2.fm (show fm (fun a k => (a == 1 && k == 1) || (a == 0 && (k == 11 || k == 12))) s2 _ from ((fm_rfl.ui 1 1 _).ui 0 12 _).ui 0 11 _)
    have ht3 := j3.fm hf3
    have hv3 := j5.fm hf3
    have kM3 : keepM s (gp_ui (gp_ui (gp_ui s2 1 1 0) 0 12 ((gp_ui s2 1 1 0).1 0 12 + 1)) 0 11 0) := kM.trans (hf3.keepM (fun a k ha => by simp only [Bool.or_eq_false_iff, Bool.and_eq_false_iff, beq_eq_false_iff_ne]; omega))
    have e12 : (gp_ui (gp_ui (gp_ui s2 1 1 0) 0 12 ((gp_ui s2 1 1 0).1 0 12 + 1)) 0 11 0).1 0 12 = c1 + 1 := by
      simp only [ui_at]
      simp
      rw [hf2.i 0 12, j4.2.1]
    refine sp_simF (N := N + 12) hB o3 hb3 ht3 hv3 (fun s4 hf4 q1 q2 q3 q4 q5 => ?_)
    refine sp_simN (h := 0) hB o3 (Or.inl rfl) (hb3.fm hf4) (ht3.fm hf4) q5 (by rw [hf4.i 0 11, ui_at, if_pos ⟨rfl, rfl⟩]; rfl) q1 q4 (fun s5 hf5 r1 r2 r3 r4 r5 => ?_)
    have e33 : s5.1 3 3 = nI (A.2.1 + A.2.2.1) := ((hb3.fm hf4).fm hf5).2.1
    rw [e33]
    refine h1 k A s5 hk hgood ?_ ⟨⟨?_, fun i hi => absurd hi (Nat.not_lt_zero i)⟩, (hb3.fm hf4).fm hf5, (ht3.fm hf4).fm hf5, ⟨?_, ?_, ?_, ?_⟩, r3, q1.fm hf5, r1, ?_, q3.fm hf5, q4.fm hf5, r4, r5, r2⟩
    · refine (kM3.trans (hf4.keepM (fun a k ha => ?_))).trans (hf5.keepM (fun a k ha => ?_))
      · simp only [pSF, Bool.or_eq_false_iff, Bool.and_eq_false_iff, beq_eq_false_iff_ne]; omega
      · simp only [pSN, Bool.or_eq_false_iff, Bool.and_eq_false_iff, beq_eq_false_iff_ne]; omega
    · rw [hf5.i 1 1, hf4.i 1 1]; simp [ui_at]; rfl
    · rw [hf5.i 0 11, hf4.i 0 11, ui_at, if_pos ⟨rfl, rfl⟩]; rfl
    · rw [hf5.i 0 12, hf4.i 0 12]; exact e12
    · rw [hf5.i 0 13, hf4.i 0 13, hf3.i 0 13]; exact j4.2.2.1
    · rw [hf5.i 24 2, hf4.i 24 2, hf3.i 24 2]; exact j4.2.2.2
    · rw [hf5.i 20 3]; exact q2.fm hf5
end BX
