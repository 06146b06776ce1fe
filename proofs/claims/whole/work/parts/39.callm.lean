def pPm (a k : Nat) : Bool := a == 35 || (a == 34 && k == 0)
def pSc (a k : Nat) : Bool := a == 49 || (a == 34 && (k == 30 || k == 31 || k == 32 || k == 33 || k == 34 || k == 35 || k == 37))
section CM
variable {G : gp_G} {N : Nat} {s s' : gp_S} {pl : Nat} {cs : Nat → Nat} {B : gB} {T : gT} {h L F : Nat} {LF : Nat × Nat} {c1 c2 c3 : Int32} {x w : Int32} {f : Int32 → gp_S → Prop}
theorem sp_withinR (k : Nat) (hk : k < 2 ^ 31) (h1 : ∀ n, n < k → x = nI n → f 1 s) (h0 : (∀ n, n < k → ¬ x = nI n) → f 0 s) {z : Int32} (hz : z = nI k - 1 := by rfl) : cl_X10_within G N x 0 z f s := by
  subst hz
  refine sg_X10_within _ _ _ ⟨fun q => h0 (fun n hn e => by rw [e] at q; exact nI_pos (by omega) q), fun q => ?_⟩
  obtain ⟨j, hj, rfl⟩ := nI_of q
  cases k with
  | zero =>
    refine ⟨fun _ => h0 (fun n hn => absurd hn (Nat.not_lt_zero n)), fun q2 => absurd ?_ q2⟩
    refine Int32.lt_iff_toInt_lt.mpr ?_
    rw [nI_toInt hj, show (nI 0 - 1).toInt = -1 by decide]
    omega
  | succ k =>
    rw [nI_pred]
    refine pk_lt k j (fun e => h0 (fun n hn e2 => ?_)) (fun e => h1 j (by omega) rfl)
    have := nI_inj hj (by omega) e2
    omega
theorem IM.page {pl' : Nat} {cs' : Nat → Nat} (im : IM ((pl, cs), B, T, h, LF, c1, c2, c3) s) (hf : fm pPm s s') (hp : pgM pl' cs' s') : IM ((pl', cs'), B, T, h, LF, c1, c2, c3) s' := by
  obtain ⟨i1, i2, i3, i4, i5, i6, i7, i8⟩ := im
  exact ⟨hp, i2.fm hf, i3.fm hf, ⟨by rw [hf.i 34 8]; exact i4.1, by rw [hf.i 34 11]; exact i4.2.1, by rw [hf.i 34 12]; exact i4.2.2.1, by rw [hf.i 34 13]; exact i4.2.2.2.1, by rw [hf.i 34 9]; exact i4.2.2.2.2.1, by rw [hf.i 34 10]; exact i4.2.2.2.2.2⟩, i5.fm hf, i6.fm hf, i7.fm hf, i8.fm hf⟩
theorem IM.scr {a : gA} (im : IM a s) (hf : fm pSc s s') : IM a s' := by
  obtain ⟨i1, i2, i3, i4, i5, i6, i7, i8⟩ := im
  exact ⟨i1.fm hf, i2.fm hf, i3.fm hf, i4.fm hf, i5.fm hf, i6.fm hf, i7.fm hf, i8.fm hf⟩
theorem scr_keep (hf : fm pSc s s') : keepX s s' := hf.keepX (fun a k ha => by simp only [pSc, Bool.or_eq_false_iff, Bool.and_eq_false_iff, beq_eq_false_iff_ne]; omega)
theorem pm_keep (hf : fm pPm s s') : keepX s s' := hf.keepX (fun a k ha => by simp only [pPm, Bool.or_eq_false_iff, Bool.and_eq_false_iff, beq_eq_false_iff_ne]; omega)
theorem ms_letter (ok : okG ((pl, cs), B, T, h, LF, c1, c2, c3)) (im : IM ((pl, cs), B, T, h, LF, c1, c2, c3) s)
    (h1 : ∀ c s', 32 ≤ c → c ≤ 126 → x = nI c → pl < 40 → keepX s s' → IM ((pl + 1, va_up cs pl c), B, T, h, LF, c1, c2, c3) s' → f (nI (pl + 1)) s')
    (h2 : ∀ c, 32 ≤ c → c ≤ 126 → x = nI c → ¬ pl < 40 → f (-1004) s)
    (h3 : (∀ c, 32 ≤ c → c ≤ 126 → ¬ x = nI c) → f (-1002) s) : cl_X10_letter G (N + 1) x f s := by
  have hpl : pl ≤ 40 := ok.1.1
  have e11 : s.1 34 0 = nI pl := im.1.1
  refine sg_X10_letter _ (sg_X10_within _ _ _ ?_)
  by_cases e1 : x < 32
  · exact ⟨fun _ => ⟨fun q => absurd rfl q, fun _ => h3 (fun c hc hc2 e => by rw [e] at e1; exact nI_nlt (b := 32) hc (by omega) e1)⟩, fun q => absurd e1 q⟩
  · refine ⟨fun q => absurd q e1, fun _ => ⟨fun e2 => ⟨fun q => absurd rfl q, fun _ => h3 (fun c _ hc e => ?_)⟩, fun e2 => ⟨fun _ => ?_, fun q => absurd q (by decide)⟩⟩⟩
    · rw [e] at e2; exact absurd e2 (nI_nlt (a := 126) hc (by omega))
    obtain ⟨c, hc, rfl⟩ := nI_of (ge32 e1)
    have hc1 : 32 ≤ c := Nat.not_lt.mp (fun q => e1 (nI_lt (b := 32) q (by omega)))
    have hc2 : c ≤ 126 := Nat.not_lt.mp (fun q => e2 (nI_lt (a := 126) q (by omega)))
    rw [e11]
    refine pk_ne pl 40 (fun q => ?_) (fun q => h2 c hc1 hc2 rfl (by omega))
    rw [nI_1 pl, nI_clamp (show pl < 2 ^ 31 by omega)]
    refine ⟨vp_in_nI (by omega) (by omega), ?_⟩
    have e : (gp_ui (gp_ui s 35 pl (nI c)) 34 0 (nI (pl + 1))).1 34 0 = nI (pl + 1) := by simp [ui_at]
    refine h1 c _ hc1 hc2 rfl (by omega) ((keepX.rfl.ui 35 _ _).ui 34 _ _) (im.page ((fm_rfl.ui 35 _ _).ui 34 0 _) ⟨e, fun i hi => ?_⟩)
    rw [ui_at, if_neg (by omega), ui_at]
    by_cases e : i = pl
    · rw [e, if_pos ⟨rfl, rfl⟩]; show nI c = nI (va_up cs pl c pl); unfold va_up; rw [if_pos rfl]
    · rw [if_neg (by omega)]; show _ = nI (va_up cs pl c i); unfold va_up; rw [if_neg e]; exact im.1.2 i (show i < pl by omega)
theorem ms_blank (im : IM ((pl, cs), B, T, h, LF, c1, c2, c3) s) (h1 : ∀ s', keepX s s' → IM ((0, cs), B, T, h, LF, c1, c2, c3) s' → f (nI pl) s') : cl_X10_blank G N f s := by
  have e11 : s.1 34 0 = nI pl := im.1.1
  refine sg_X10_blank ?_
  rw [e11]
  exact h1 _ (keepX.rfl.ui 34 _ _) (im.page (fm_rfl.ui 34 0 _) ⟨by simp [ui_at]; rfl, fun i hi => absurd hi (Nat.not_lt_zero i)⟩)
theorem ms_fault (ok : okG ((pl, cs), B, T, h, LF, c1, c2, c3)) (im : IM ((pl, cs), B, T, h, LF, c1, c2, c3) s)
    (h1 : x = 0 → ∀ k A s', stopP pl cs k A → keepX s s' → IM ((pl, cs), B, T, h, LF, c1, c2, c3) s' → f (nI k) s')
    (h2 : ¬ x = 0 → ∀ k, stopF pl cs k → f (nI k) s) : cl_X10_fault G (N + 5) x f s :=
  sg_X10_fault _ ⟨fun e => sp_goM ok.1 im.1 (fun k A s1 hk _ hf => h1 e k A s1 hk (hf.keepX (fun a k ha => by simp only [pM, Bool.or_eq_false_iff, Bool.and_eq_false_iff, beq_eq_false_iff_ne]; omega)) (im.scratch hf)), fun e => sp_goF ok.1 im.1 (fun k hk => h2 e k hk)⟩
theorem ms_simN (ok : okG ((pl, cs), B, T, h, LF, c1, c2, c3)) {h' : Nat} (hh : okH B h') (im : IM ((pl, cs), B, T, h, LF, c1, c2, c3) s) {f : gp_S → Prop} (h1 : ∀ s', keepX s s' → IM ((pl, cs), B, T, h', (0, 0), c1, c2, c3) s' → f s') : cl_X10_layNow G (N + 4) f (gp_ui (gp_ui (gp_ui s 34 8 (nI h')) 34 9 0) 34 10 0) := by
  obtain ⟨o1, o2, o3, o4, o5⟩ := ok
  obtain ⟨i1, i2, i3, i4, i5, i6, i7, i8⟩ := im
  have hf : fm (fun a k => a == 34 && (k == 8 || k == 9 || k == 10)) s (gp_ui (gp_ui (gp_ui s 34 8 (nI h')) 34 9 0) 34 10 0) := ((fm_rfl.ui 34 8 _).ui 34 9 _).ui 34 10 _
  refine sp_layN (h := h') o2 o3 hh (i2.fm hf) (i3.fm hf) (by simp [ui_at]) (fun s5 hf5 r1 => ?_)
  refine h1 s5 ?_ ⟨(i1.fm hf).fm hf5, (i2.fm hf).fm hf5, (i3.fm hf).fm hf5, ⟨?_, ?_, ?_, ?_, ?_, ?_⟩, (i5.fm hf).fm hf5, r1, (i7.fm hf).fm hf5, (i8.fm hf).fm hf5⟩
  · refine (((keepX.rfl.ui 34 _ _).ui 34 _ _).ui 34 _ _).trans (hf5.keepX (fun a k ha => ?_))
    simp only [pNw, Bool.or_eq_false_iff, Bool.and_eq_false_iff, beq_eq_false_iff_ne]; omega
  · rw [hf5.i 34 8]; simp [ui_at]
  · rw [hf5.i 34 11, hf.i 34 11]; exact i4.2.1
  · rw [hf5.i 34 12, hf.i 34 12]; exact i4.2.2.1
  · rw [hf5.i 34 13, hf.i 34 13]; exact i4.2.2.2.1
  · rw [hf5.i 34 9]; simp [ui_at]; rfl
  · rw [hf5.i 34 10]; simp [ui_at]; rfl
theorem ms_hurt (ok : okG ((pl, cs), B, T, h, LF, c1, c2, c3)) (im : IM ((pl, cs), B, T, h, LF, c1, c2, c3) s)
    (h1 : ∀ h' s', okH B h' → x = nI h' → keepX s s' → IM ((pl, cs), B, T, h', (0, 0), c1, c2, c3) s' → f (nI h) s')
    (h2 : ¬ x = 0 → (∀ i, i < (flN B).length → ¬ x = nI ((flN B).getD i 0)) → f (-1001) s) : cl_X10_hurt G (N + 5) x f s := by
  have e11 : s.1 34 8 = nI h := im.2.2.2.1.1
  have hl : flM B s := im.2.2.2.2.2.2.1
  have hB : okB B := ok.2.1
  have hlen := flN_len hB
  refine sg_X10_hurt _ ⟨fun e => ?_, fun e => sp_findM hB hl (fun i hi hx => ⟨fun _ => ?_, fun q => absurd q (nI_m1 i (by omega))⟩) (fun hn => ⟨fun q => absurd rfl q, fun _ => h2 e hn⟩)⟩
  · have e2 : x = nI 0 := e
    rw [e2, e11]
    exact ms_simN ok (Or.inl rfl) im (fun s' km ix' => h1 0 s' (Or.inl rfl) e2 km ix')
  · have hm := okH_mem.mpr (Or.inr (flN_get hi))
    rw [hx, e11]
    exact ms_simN ok hm im (fun s' km ix' => h1 _ s' hm hx km ix')
theorem ms_stimulus (ok : okG ((pl, cs), B, T, h, LF, c1, c2, c3)) (im : IM ((pl, cs), B, T, h, LF, c1, c2, c3) s)
    (h0 : (∀ k, stopF pl cs k → pl = 0 ∨ k < pl) → f (-1003) s)
    (h1 : ∀ s', stopF pl cs pl → pl ≠ 0 → keepX s s' → IM ((0, cs), B, stT pl cs, h, (0, 0), c1, c2 + 1, c3) s' → f (nI pl) s') : cl_X10_stimulus G (N + 6) f s := by
  obtain ⟨o1, o2, o3, o4, o5⟩ := ok
  obtain ⟨i1, i2, i3, i4, i5, i6, i7, i8⟩ := im
  have e11 : s.1 34 0 = nI pl := i1.1
  have hpl : pl ≤ 40 := o1.1
  refine sg_X10_stimulus ?_
  rw [e11]
  refine pk_eq pl 0 (fun e => h0 (fun _ _ => Or.inl e)) (fun e => sp_goF (N := N + 3) o1 i1 (fun k hk => ?_))
  have hkl : k ≤ pl := hk.1
  rw [e11]
  refine pk_le pl k (fun q => ?_) (fun q => h0 (fun j hj => Or.inr (by rw [stopF_one hj hk]; exact q)))
  have hk2 : stopF pl cs pl := by rw [show pl = k from by omega] at hk ⊢; exact hk
  have hp16 : pl ≤ 16 := hk2.2.1
  have hT := stT_ok hk2
  have key : ∀ (m t : Nat) (s2 : gp_S), t + m = pl → fm (fun a k => a == 38 || (a == 34 && k == 6)) s s2 → s2.1 34 6 = nI pl → (∀ j, j < t → s2.1 38 j = nI ((stT pl cs).2 j)) → at_X10_stimulus_32 G (N + 6) (nI t) f s2 := by
    intro m
    induction m with
    | zero =>
      intro t s2 ht hf e6 hj
      refine sg_X10_stimulus_32 _ ?_
      rw [e6]
      refine pk_le pl t (fun _ => ?_) (fun q => absurd q (by omega))
      have ht2 : tM (stT pl cs) s2 := ⟨e6, fun j hj' => hj j (by have : j < pl := hj'; omega)⟩
      have hfb : fm (fun a k => a == 34 && (k == 0 || k == 12)) s2 (gp_ui (gp_ui s2 34 12 (s2.1 34 12 + 1)) 34 0 0) := (fm_rfl.ui 34 12 _).ui 34 0 _
      have hb2 : bM B s2 := i2.fm hf
      refine sp_begins (h := h) o2 hT o4 (hb2.fm hfb) (ht2.fm hfb) (by rw [hfb.i 34 8, hf.i 34 8]; exact i4.1) (fun s4 hf4 q1 q2 q3 q4 q5 q6 => ?_)
      have e66 : s4.1 34 6 = nI pl := by rw [hf4.i 34 6, hfb.i 34 6]; exact e6
      rw [e66]
      refine h1 s4 hk2 e ?_ ⟨⟨?_, fun i hi => absurd hi (Nat.not_lt_zero i)⟩, (hb2.fm hfb).fm hf4, (ht2.fm hfb).fm hf4, ⟨?_, ?_, ?_, ?_, q5, q6⟩, q2, q3, q1, q4⟩
      · refine ((hf.keepX (fun a k ha => ?_)).trans (hfb.keepX (fun a k ha => ?_))).trans (hf4.keepX (fun a k ha => ?_))
        · simp only [Bool.or_eq_false_iff, Bool.and_eq_false_iff, beq_eq_false_iff_ne]; omega
        · simp only [Bool.or_eq_false_iff, Bool.and_eq_false_iff, beq_eq_false_iff_ne]; omega
        · simp only [pBe, Bool.or_eq_false_iff, Bool.and_eq_false_iff, beq_eq_false_iff_ne]; omega
      · rw [hf4.i 34 0]; simp [ui_at]; rfl
      · rw [hf4.i 34 8, hfb.i 34 8, hf.i 34 8]; exact i4.1
      · rw [hf4.i 34 11, hfb.i 34 11, hf.i 34 11]; exact i4.2.1
      · rw [hf4.i 34 12]; simp [ui_at]; rw [hf.i 34 12, i4.2.2.1]
      · rw [hf4.i 34 13, hfb.i 34 13, hf.i 34 13]; exact i4.2.2.2.1
    | succ m ih =>
      intro t s2 ht hf e6 hj
      refine sg_X10_stimulus_32 _ ?_
      have hc := o1.2 t (show t < pl by omega)
      rw [e6, nI_clamp (show t < 2 ^ 31 by omega), hf.i 35 t, i1.2 t (show t < pl by omega), nI_1 t]
      refine pk_le pl t (fun q => absurd q (by omega)) (fun _ => ⟨vp_in_nI (by omega) (by omega), sp_figM (N := N + 4) (m := 16) hc (by omega) ⟨vp_in_nI (by omega) (by omega), ih (t + 1) _ (by omega) (hf.ui 38 _ _) (by rw [ui_at, if_neg (by omega)]; exact e6) (fun j hj' => ?_)⟩⟩)
      rw [ui_at]
      by_cases e : j = t
      · rw [if_pos ⟨rfl, e⟩, e, figB_16 (fun v => figN_lt)]
        show _ = nI ((figN (cs t)).getD 0)
        have := hk2.2.2.1 t (by omega)
        show figI (figN (cs t)) = _
        cases e2 : figN (cs t) with
        | none => exact absurd e2 this
        | some v => rfl
      · rw [if_neg (by omega)]; exact hj j (by omega)
  exact key pl 0 _ (by omega) (fm_rfl.ui 34 6 _) (by rw [ui_at, if_pos ⟨rfl, rfl⟩]) (fun j hj => absurd hj (Nat.not_lt_zero j))
theorem sp_isNode (hB : okB B) (hb : bM B s) (h1 : ∀ n, n < bN B → x = nI n → f 1 s) (h2 : (∀ n, n < bN B → ¬ x = nI n) → f 0 s) : cl_X10_isNode G (N + 1) x f s := by
  have := hB.le
  refine sg_X10_isNode _ ?_
  rw [hb.2.1]
  exact sp_withinR (bN B) (by omega) (fun n hn e => ⟨Or.inr rfl, h1 n hn e⟩) (fun hn => ⟨Or.inl rfl, h2 hn⟩)
theorem ms_isBad (hB : okB B) (hT : okT T) (ht : tM T s) (hg : hsM 44 B T 0 s) (hw : hsM 45 B T h s) {n : Nat} (hn : n < bN B) (h1 : f (if badN B T h n then 1 else 0) s) : cl_X10_isBad G (N + 1) (nI n) f s := by
  have hN := hB.le
  have a1 := @mrkN_lt B T h n T.1
  have a2 := @mrkN_lt B T 0 n T.1
  have b1 := @hisN_lt31 B T h n hB hT (by omega)
  have b2 := @hisN_lt31 B T 0 n hB hT (by omega)
  refine sg_X10_isBad _ ⟨vp_in_nI (by omega) (by omega), ?_⟩
  rw [nI_clamp (by omega), hw n hn]
  refine sp_markM hT ht (by omega) ⟨vp_in_nI (by omega) (by omega), ?_⟩
  rw [hg n hn]
  refine sp_markM hT ht (by omega) ?_
  rw [mrk_I hB (by omega), mrk_I hB (by omega)]
  refine pk_eq (mrkN B T h T.1 n) (mrkN B T 0 T.1 n) (fun e => ?_) (fun e => ?_)
  · rw [if_neg (fun q => badN_iff.mp q e)] at h1; exact h1
  · rw [if_pos (badN_iff.mpr e)] at h1; exact h1
theorem ms_nodeNow (ok : okG ((pl, cs), B, T, h, (L, F), c1, c2, c3)) (im : IM ((pl, cs), B, T, h, (L, F), c1, c2, c3) s) {n : Nat} (hn : n < bN B)
    (hy : ∃ y, y < 10 ∧ w = nI y)
    (h1 : ∀ y, y < 10 → w = nI y → f (ndV B T h L F n y) s) : cl_X10_nodeNow G (N + 2) (nI n) w f s := by
  obtain ⟨o1, o2, o3, o4, o5⟩ := ok
  obtain ⟨i1, i2, i3, i4, i5, i6, i7, i8⟩ := im
  have hB : okB B := o2
  have hT : okT T := o3
  have hN : bN B ≤ 12 := okB.le o2
  have hin : vp_in (nI n) 12 := vp_in_nI (by omega) (by omega)
  have b1 := @hisN_lt31 B T h n hB hT (by omega)
  have b2 := @hisN_lt31 B T 0 n hB hT (by omega)
  have go : ∀ y, y < 10 → w = nI y → ∀ v, ndV B T h L F n y = v → f v s := fun y hy hw v hv => by rw [← hv]; exact h1 y hy hw
  have j5 : hsM 44 B T 0 s := i5
  have j6 : hsM 45 B T h s := i6
  have j2 : bM B s := i2
  have j3 : tM T s := i3
  have hL : okL (bN B) L F := o5
  obtain ⟨hL12, hF12⟩ := hL.lt hN
  have e9 : s.1 34 9 = nI L := i4.2.2.2.2.1
  have e10 : s.1 34 10 = nI F := i4.2.2.2.2.2
  refine sg_X10_nodeNow _ _ ?_
  rw [nI_clamp (show n < 2 ^ 31 by omega), j5 n hn, j6 n hn, e9]
  refine ⟨fun e => ⟨hin, go 0 (by omega) e _ (j2.2.2.1 n hn).symm⟩, fun e => ?_, fun e => ?_, fun e => ⟨hin, go 3 (by omega) e _ rfl⟩, fun e => ⟨hin, sp_markM hT j3 (by omega) (go 4 (by omega) e _ ?_)⟩, fun e => ⟨hin, go 5 (by omega) e _ rfl⟩, fun e => ⟨hin, sp_markM hT j3 (by omega) (go 6 (by omega) e _ ?_)⟩, fun e => ms_isBad (B := B) (T := T) (h := h) hB hT j3 j5 j6 hn ?_, fun e => sp_firstM (B := B) (T := T) (h := h) hB hT j3 j5 j6 hn (go 8 (by omega) e _ rfl), fun q0 q1 q2 q3 q4 q5 q6 q7 q8 => ?_⟩
  · have e1 : 2 * nI n + w - 1 = nI (2 * n + 0) := by rw [e, mulI (b := 2), nI_1, nI_pred]; rfl
    rw [e1]
    refine ⟨vp_in_nI (by omega) (by omega), ?_⟩
    rw [nI_clamp (show 2 * n + 0 < 2 ^ 31 by omega)]
    exact go 1 (by omega) e _ (j2.2.2.2 n 0 hn (by omega)).symm
  · have e1 : 2 * nI n + w - 1 = nI (2 * n + 1) := by rw [e, mulI (b := 2), addI (b := 2), show 2 * n + 2 = (2 * n + 1) + 1 from rfl, nI_pred]
    rw [e1]
    refine ⟨vp_in_nI (by omega) (by omega), ?_⟩
    rw [nI_clamp (show 2 * n + 1 < 2 ^ 31 by omega)]
    exact go 2 (by omega) e _ (j2.2.2.2 n 1 hn (by omega)).symm
  · rw [mrk_I hB (by omega)]; rfl
  · rw [mrk_I hB (by omega)]; rfl
  · have := go 7 (by omega) e _ rfl
    cases hb : badN B T h n with
    | false => exact ⟨fun _ => by rw [show ndV B T h L F n 7 = if badN B T h n then 1 else 0 from rfl, hb] at this; exact this, fun q => absurd rfl q⟩
    | true => exact ⟨fun q => absurd q (by decide), fun _ => by rw [show ndV B T h L F n 7 = if badN B T h n then 1 else 0 from rfl, hb] at this; exact this⟩
  · have e : w = nI 9 := by
      obtain ⟨y, hy, e⟩ := hy
      have : y = 0 ∨ y = 1 ∨ y = 2 ∨ y = 3 ∨ y = 4 ∨ y = 5 ∨ y = 6 ∨ y = 7 ∨ y = 8 ∨ y = 9 := by omega
      rcases this with q | q | q | q | q | q | q | q | q | q <;> subst q
      · exact absurd e q0
      · exact absurd e q1
      · exact absurd e q2
      · exact absurd e q3
      · exact absurd e q4
      · exact absurd e q5
      · exact absurd e q6
      · exact absurd e q7
      · exact absurd e q8
      · exact e
    have fin := go 9 (by omega) e _ rfl
    refine sp_hasM (a := L) (t := n) (by omega) (by omega) ?_
    rw [e10, bI_bit (a := F) (t := n) (by omega) (by omega)]
    rw [show ndV B T h L F n 9 = if L.testBit n then nI (bitN F n) else -1 from rfl] at fin
    unfold bitN at fin ⊢
    cases hb : L.testBit n with
    | false => rw [hb] at fin; exact ⟨fun _ => fin, fun q => absurd rfl q⟩
    | true => rw [hb] at fin; exact ⟨fun q => absurd q (by decide), fun _ => fin⟩
theorem ms_node (ok : okG ((pl, cs), B, T, h, (L, F), c1, c2, c3)) (im : IM ((pl, cs), B, T, h, (L, F), c1, c2, c3) s)
    (h1 : ∀ n y, n < bN B → y < 10 → x = nI n → w = nI y → f (ndV B T h L F n y) s)
    (h2 : ∀ n, n < bN B → x = nI n → (∀ y, y < 10 → ¬ w = nI y) → f (-1002) s)
    (h3 : (∀ n, n < bN B → ¬ x = nI n) → f (-1001) s) : cl_X10_node G (N + 3) x w f s := by
  have hB : okB B := ok.2.1
  have hb : bM B s := im.2.1
  refine sg_X10_node _ _ (sp_isNode hB hb (fun n hn hx => ⟨fun _ => sp_withinR 10 (by omega) (fun y hy hw => ⟨fun q => absurd q (by decide), fun _ => ?_⟩) (fun hw => ⟨fun _ => h2 n hn hx hw, fun q => absurd rfl q⟩), fun q => absurd q (by decide)⟩) (fun hn => ⟨fun q => absurd rfl q, fun _ => h3 hn⟩))
  rw [hx]
  exact ms_nodeNow ok im hn ⟨y, hy, hw⟩ (fun y' hy' hw' => h1 n y' hn hy' hx hw')
theorem ms_shows (ok : okG ((pl, cs), B, T, h, LF, c1, c2, c3)) (im : IM ((pl, cs), B, T, h, LF, c1, c2, c3) s)
    (h1 : ∀ i, i < nfN B → x = nI ((flN B).getD i 0) → w = 0 → f (nI (bbF B T i)) s)
    (h1' : ∀ i, i < nfN B → x = nI ((flN B).getD i 0) → w = 1 → f (nI (uuF B T i)) s)
    (h2 : ∀ i, i < nfN B → x = nI ((flN B).getD i 0) → ¬ w = 0 → ¬ w = 1 → f (-1002) s)
    (h3 : (∀ i, i < nfN B → ¬ x = nI ((flN B).getD i 0)) → f (-1001) s) : cl_X10_shows G (N + 1) x w f s := by
  have hl : flM B s := im.2.2.2.2.2.2.1
  have hs : shM B T s := im.2.2.2.2.2.2.2
  have hB : okB B := ok.2.1
  have hlen := flN_len hB
  refine sg_X10_shows _ _ (sp_findM hB hl (fun i hi hx => ⟨fun _ => ?_, fun q => absurd q (nI_m1 i (by omega))⟩) (fun hn => ⟨fun q => absurd rfl q, fun _ => h3 hn⟩))
  have hin : vp_in (nI i) 40 := vp_in_nI (by omega) (by omega)
  rw [nI_clamp (show i < 2 ^ 31 by omega), (hs i hi).1, (hs i hi).2]
  exact ⟨fun e0 => ⟨fun e1 => h2 i hi hx e0 e1, fun e => ⟨hin, h1' i hi hx e⟩⟩, fun e => ⟨hin, h1 i hi hx e⟩⟩
theorem ms_probe (ok : okG ((pl, cs), B, T, h, (L, F), c1, c2, c3)) (im : IM ((pl, cs), B, T, h, (L, F), c1, c2, c3) s)
    (h1 : ∀ n s', n < bN B → x = nI n → L.testBit n = false → keepX s s' → IM ((pl, cs), B, T, h, (L ||| 2 ^ n, if badN B T h n then F ||| 2 ^ n else F), c1, c2, c3 + 1) s' → f (if badN B T h n then 1 else 0) s')
    (h2 : ∀ n, n < bN B → x = nI n → L.testBit n = true → f (-1003) s)
    (h3 : (∀ n, n < bN B → ¬ x = nI n) → f (-1001) s) : cl_X10_probe G (N + 2) x f s := by
  obtain ⟨o1, o2, o3, o4, o5⟩ := ok
  obtain ⟨i1, i2, i3, i4, i5, i6, i7, i8⟩ := im
  have hB : okB B := o2
  have hT : okT T := o3
  have hN : bN B ≤ 12 := okB.le o2
  have hL : okL (bN B) L F := o5
  obtain ⟨hL12, hF12⟩ := hL.lt hN
  have e9 : s.1 34 9 = nI L := i4.2.2.2.2.1
  have e10 : s.1 34 10 = nI F := i4.2.2.2.2.2
  refine sg_X10_probe _ (sp_isNode hB i2 (fun n hn hx => ⟨fun _ => ?_, fun q => absurd q (by decide)⟩) (fun hn => ⟨fun q => absurd rfl q, fun _ => h3 hn⟩))
  subst hx
  rw [e9]
  refine sp_hasM (a := L) (t := n) (by omega) (by omega) ?_
  rw [e9, e10, bI_1shl (by omega), bI_or L (2 ^ n), bI_or F (2 ^ n)]
  cases hb : L.testBit n with
  | true => exact ⟨fun q => absurd q (by unfold bitN; rw [hb]; decide), fun _ => h2 n hn rfl hb⟩
  | false =>
    have hF : F.testBit n = false := hL.F hb
    refine ⟨fun _ => ?_, fun q => absurd (by unfold bitN; rw [hb]; rfl) q⟩
    have hf0 : fm (fun a k => a == 34 && (k == 9 || k == 10 || k == 13)) s (gp_ui s 34 9 (nI (L ||| 2 ^ n))) := fm_rfl.ui 34 9 _
    have e13 : (gp_ui s 34 9 (nI (L ||| 2 ^ n))).1 34 13 = c3 := by rw [ui_at, if_neg (by omega)]; exact i4.2.2.2.1
    refine ms_isBad (B := B) (T := T) (h := h) hB hT (i3.fm hf0) (i5.fm hf0) (i6.fm hf0) hn ?_
    rw [e13]
    have fin : ∀ F', F' = (if badN B T h n then F ||| 2 ^ n else F) → f (if badN B T h n then 1 else 0) (gp_ui (gp_ui (gp_ui s 34 9 (nI (L ||| 2 ^ n))) 34 10 (nI F')) 34 13 (c3 + 1)) := by
      intro F' hF'
      have hf := (hf0.ui 34 10 (nI F')).ui 34 13 (c3 + 1)
      refine h1 n _ hn rfl hb (((keepX.rfl.ui 34 _ _).ui 34 _ _).ui 34 _ _) ⟨i1.fm hf, i2.fm hf, i3.fm hf, ⟨?_, ?_, ?_, ?_, ?_, ?_⟩, i5.fm hf, i6.fm hf, i7.fm hf, i8.fm hf⟩
      · rw [hf.i 34 8]; exact i4.1
      · rw [hf.i 34 11]; exact i4.2.1
      · rw [hf.i 34 12]; exact i4.2.2.1
      · rw [ui_at, if_pos ⟨rfl, rfl⟩]
      · rw [ui_at, if_neg (by omega), ui_at, if_neg (by omega), ui_at, if_pos ⟨rfl, rfl⟩]
      · rw [ui_at, if_neg (by omega), ui_at, if_pos ⟨rfl, rfl⟩, hF']
    have z0 : nI F ||| 0 = nI F := (bI_or F 0).trans (by rw [Nat.or_zero])
    rw [z0, bI_bit (a := F) (t := n) (by omega) (by omega), hF]
    have hlt : F ||| 2 ^ n < 2 ^ 12 := Nat.or_lt_two_pow hF12 (Nat.pow_lt_pow_right (by omega) (by omega))
    rw [bI_bit (a := F ||| 2 ^ n) (t := n) (by omega) (by omega), tb_or2]
    cases hbd : badN B T h n with
    | false =>
      have := fin F (by rw [hbd]; rfl)
      rw [hbd] at this
      exact ⟨fun _ => this, fun q => absurd rfl q⟩
    | true =>
      have := fin (F ||| 2 ^ n) (by rw [hbd]; rfl)
      rw [hbd] at this
      refine ⟨fun q => absurd q (by decide), fun _ => ?_⟩
      rw [show (F.testBit n || decide (n = n)) = true by simp]
      exact this
theorem ms_forget (ok : okG ((pl, cs), B, T, h, (L, F), c1, c2, c3)) (im : IM ((pl, cs), B, T, h, (L, F), c1, c2, c3) s)
    (h1 : ∀ s', keepX s s' → IM ((pl, cs), B, T, h, (0, 0), c1, c2, c3) s' → f (nI (fb_ct (fun n => L.testBit n) 12)) s') : cl_X10_forget G (N + 1) f s := by
  obtain ⟨o1, o2, o3, o4, o5⟩ := ok
  obtain ⟨i1, i2, i3, i4, i5, i6, i7, i8⟩ := im
  have hL : okL (bN B) L F := o5
  obtain ⟨hL12, hF12⟩ := hL.lt (okB.le o2)
  have e9 : s.1 34 9 = nI L := i4.2.2.2.2.1
  refine sg_X10_forget ?_
  rw [e9]
  refine sp_onesM hL12 ?_
  have hf : fm (fun a k => a == 34 && (k == 9 || k == 10)) s (gp_ui (gp_ui s 34 9 0) 34 10 0) := (fm_rfl.ui 34 9 _).ui 34 10 _
  refine h1 _ ((keepX.rfl.ui 34 _ _).ui 34 _ _) ⟨i1.fm hf, i2.fm hf, i3.fm hf, ⟨?_, ?_, ?_, ?_, ?_, ?_⟩, i5.fm hf, i6.fm hf, i7.fm hf, i8.fm hf⟩
  · rw [hf.i 34 8]; exact i4.1
  · rw [hf.i 34 11]; exact i4.2.1
  · rw [hf.i 34 12]; exact i4.2.2.1
  · rw [hf.i 34 13]; exact i4.2.2.2.1
  · simp [ui_at]; rfl
  · simp [ui_at]; rfl
theorem IM.sM (im : IM ((pl, cs), B, T, h, LF, c1, c2, c3) s) : sM (bbF B T) (nfN B) (bN B) s := ⟨im.2.2.2.2.2.2.1.1, im.2.1.2.1, fun i hi => (im.2.2.2.2.2.2.2 i hi).1⟩
theorem ms_suspectsNow (ok : okG ((pl, cs), B, T, h, (L, F), c1, c2, c3)) (im : IM ((pl, cs), B, T, h, (L, F), c1, c2, c3) s)
    (hy : ∃ y, y < 5 ∧ x = nI y)
    (h1 : ∀ y s', y < 5 → x = nI y → fm pLS s s' → f (suV B T L F y) s') : cl_X10_suspectsNow G (N + 5) x f s := by
  obtain ⟨y, hy, rfl⟩ := hy
  have hN : bN B ≤ 12 := okB.le ok.2.1
  have hlen : nfN B ≤ 40 := flN_len ok.2.1
  have hL : okL (bN B) L F := ok.2.2.2.2
  obtain ⟨hL12, hF12⟩ := hL.lt hN
  have e9 : s.1 34 9 = nI L := im.2.2.2.1.2.2.2.2.1
  have e10 : s.1 34 10 = nI F := im.2.2.2.1.2.2.2.2.2
  have hb : ∀ i, i < nfN B → bbF B T i < 2 ^ 12 := fun i _ => bbF_lt12 ok.2.1 i
  refine sg_X10_suspectsNow _ ?_
  refine pk_le 2 y (fun e => ?_) (fun e => ?_)
  · refine sp_layRs (bb := bbF B T) (nf := nfN B) (nn := bN B) (L := L) (F := F) hlen hN hb hL im.sM e9 e10 (fun s1 hf1 q1 q2 q3 => ?_)
    rw [q1, q2, q3]
    refine pk_ne y 2 (fun a2 => pk_ne y 3 (fun a3 => ?_) (fun a3 => ?_)) (fun a2 => ?_)
    · have e4 : y = 4 := by omega
      subst e4
      exact h1 4 s1 (by omega) rfl hf1
    · subst a3
      exact h1 3 s1 (by omega) rfl hf1
    · subst a2
      exact h1 2 s1 (by omega) rfl hf1
  · rw [e9, e10]
    refine pk_ne y 0 (fun a => ?_) (fun a => ?_)
    · have e1 : y = 1 := by omega
      subst e1
      exact sp_nextM hlen hN hb hL im.sM (h1 1 s (by omega) rfl fm_rfl)
    · subst a
      exact sp_fitM hlen hb hL12 hF12 im.sM (h1 0 s (by omega) rfl fm_rfl)
theorem ls_sc (hf : fm pLS s s') : fm pSc s s' := hf.mono (sub_bool (by intro a k; simp only [pLS, pSc, Bool.or_eq_true, beq_iff_eq, Bool.and_eq_true]; omega))
theorem lr_sc (hf : fm pLR s s') : fm pSc s s' := hf.mono (sub_bool (by intro a k; simp only [pLR, pSc, Bool.or_eq_true, beq_iff_eq, Bool.and_eq_true]; omega))
theorem wm_sc (hf : fm pWM s s') : fm pSc s s' := hf.mono (sub_bool (by intro a k; simp only [pWM, pSc, Bool.or_eq_true, beq_iff_eq, Bool.and_eq_true]; omega))
theorem ms_suspects (ok : okG ((pl, cs), B, T, h, (L, F), c1, c2, c3)) (im : IM ((pl, cs), B, T, h, (L, F), c1, c2, c3) s)
    (h1 : ∀ y s', y < 5 → x = nI y → fm pSc s s' → f (suV B T L F y) s') (h2 : (∀ y, y < 5 → ¬ x = nI y) → f (-1002) s) : cl_X10_suspects G (N + 6) x f s := by
  refine sg_X10_suspects _ (sp_withinR 5 (by omega) (fun y hy e => ⟨fun q => absurd q (by decide), fun _ => ms_suspectsNow ok im ⟨y, hy, e⟩ (fun y' s' hy' e' hf => h1 y' s' hy' e' (ls_sc hf))⟩) (fun hn => ⟨fun _ => h2 hn, fun q => absurd rfl q⟩))
theorem ms_suspectNow (ok : okG ((pl, cs), B, T, h, (L, F), c1, c2, c3)) (im : IM ((pl, cs), B, T, h, (L, F), c1, c2, c3) s) {i : Nat} (hi : i < nfN B)
    (hy : ∃ y, y < 3 ∧ w = nI y)
    (h1 : ∀ y s', y < 3 → w = nI y → fm pLR s s' → f (spV B T L F i y) s') : cl_X10_suspectNow G (N + 4) (nI i) w f s := by
  obtain ⟨y, hy, rfl⟩ := hy
  have hN : bN B ≤ 12 := okB.le ok.2.1
  have hlen : nfN B ≤ 40 := flN_len ok.2.1
  have hL : okL (bN B) L F := ok.2.2.2.2
  have e9 : s.1 34 9 = nI L := im.2.2.2.1.2.2.2.2.1
  have e10 : s.1 34 10 = nI F := im.2.2.2.1.2.2.2.2.2
  have hb : ∀ i, i < nfN B → bbF B T i < 2 ^ 12 := fun i _ => bbF_lt12 ok.2.1 i
  have hl : flM B s := im.2.2.2.2.2.2.1
  refine sg_X10_suspectNow _ _ ?_
  rw [nI_clamp (show i < 2 ^ 31 by omega), hl.2 i hi]
  refine pk_ne y 0 (fun a => sp_layR (bb := bbF B T) (nf := nfN B) (nn := bN B) (L := L) (F := F) hlen hN hb hL im.sM e9 e10 hi (fun s1 hf1 q1 q2 => ?_)) (fun a => ⟨vp_in_nI (by omega) (by omega), ?_⟩)
  · rw [q1, q2]
    refine pk_ne y 1 (fun a1 => ?_) (fun a1 => ?_)
    · have e2 : y = 2 := by omega
      subst e2
      exact h1 2 s1 (by omega) rfl hf1
    · subst a1
      exact h1 1 s1 (by omega) rfl hf1
  · subst a
    exact h1 0 s (by omega) rfl fm_rfl
theorem ms_suspect (ok : okG ((pl, cs), B, T, h, (L, F), c1, c2, c3)) (im : IM ((pl, cs), B, T, h, (L, F), c1, c2, c3) s)
    (h1 : ∀ i y s', i < nfN B → fit (bbF B T) L F i = true → x = nI (fb_ct (fit (bbF B T) L F) i) → y < 3 → w = nI y → fm pSc s s' → f (spV B T L F i y) s')
    (h2 : ∀ i, i < nfN B → fit (bbF B T) L F i = true → x = nI (fb_ct (fit (bbF B T) L F) i) → (∀ y, y < 3 → ¬ w = nI y) → f (-1002) s)
    (h3 : (∀ j, j < cntN (bbF B T) (nfN B) L F → ¬ x = nI j) → f (-1001) s) : cl_X10_suspect G (N + 5) x w f s := by
  have hN : bN B ≤ 12 := okB.le ok.2.1
  have hlen : nfN B ≤ 40 := flN_len ok.2.1
  have hL : okL (bN B) L F := ok.2.2.2.2
  have e9 : s.1 34 9 = nI L := im.2.2.2.1.2.2.2.2.1
  have e10 : s.1 34 10 = nI F := im.2.2.2.1.2.2.2.2.2
  have hb : ∀ i, i < nfN B → bbF B T i < 2 ^ 12 := fun i _ => bbF_lt12 ok.2.1 i
  refine sg_X10_suspect _ _ (sp_atM (N := N + 3) (bb := bbF B T) (nf := nfN B) (nn := bN B) (L := L) (F := F) hlen hN hb hL im.sM e9 e10 (fun i hi hp hx => ⟨fun _ => sp_withinR 3 (by omega) (fun y hy hw => ⟨fun q => absurd q (by decide), fun _ => ms_suspectNow ok im hi ⟨y, hy, hw⟩ (fun y' s' hy' hw' hf => h1 i y' s' hi hp hx hy' hw' (lr_sc hf))⟩) (fun hw => ⟨fun _ => h2 i hi hp hx hw, fun q => absurd rfl q⟩), fun q => absurd q (nI_m1 i (by omega))⟩) (fun hn => ⟨fun q => absurd rfl q, fun _ => h3 hn⟩))
theorem IM.wM (im : IM ((pl, cs), B, T, h, LF, c1, c2, c3) s) : wM B T h s := ⟨im.2.1, im.2.2.1, im.2.2.2.2.1, im.2.2.2.2.2.1⟩
theorem ms_way (ok : okG ((pl, cs), B, T, h, LF, c1, c2, c3)) (im : IM ((pl, cs), B, T, h, LF, c1, c2, c3) s)
    (h1 : ∀ n j s', n < bN B → x = nI n → j < (wayN (fiN B T h) B n).length → w = nI j → fm pSc s s' → f (nI ((wayN (fiN B T h) B n).getD j 0)) s')
    (h2 : ∀ n s', n < bN B → x = nI n → (∀ j, j < (wayN (fiN B T h) B n).length → ¬ w = nI j) → fm pSc s s' → f (-1) s')
    (h3 : (∀ n, n < bN B → ¬ x = nI n) → f (-1001) s) : cl_X10_way G (N + 5) x w f s := by
  have hB : okB B := ok.2.1
  have hT : okT T := ok.2.2.1
  have hb : bM B s := im.2.1
  refine sg_X10_way _ _ (sp_isNode hB hb (fun n hn hx => ⟨fun _ => ?_, fun q => absurd q (by decide)⟩) (fun hn => ⟨fun q => absurd rfl q, fun _ => h3 hn⟩))
  rw [hx]
  have hw := wayN_len (fi := fiN B T h) hB n
  refine sp_wayM (B := B) (T := T) (h := h) hB hT im.wM hn (fun s1 hf1 hl1 => ?_)
  rw [hl1.1]
  refine sp_withinR (wayN (fiN B T h) B n).length (by omega) (fun j hj e => ⟨fun q => absurd q (by decide), fun _ => ?_⟩) (fun hj => ⟨fun _ => h2 n s1 hn hx hj (wm_sc hf1), fun q => absurd rfl q⟩)
  rw [e, nI_clamp (by omega), hl1.2 j hj]
  exact ⟨vp_in_nI (by omega) (by omega), h1 n j s1 hn hx hj e (wm_sc hf1)⟩
theorem ms_place (ok : okG ((pl, cs), B, T, h, LF, c1, c2, c3)) (im : IM ((pl, cs), B, T, h, LF, c1, c2, c3) s)
    (h1 : ∀ n s', n < bN B → x = nI n → fm pSc s s' → f (lastI (wayN (fiN B T h) B n)) s')
    (h3 : (∀ n, n < bN B → ¬ x = nI n) → f (-1001) s) : cl_X10_place G (N + 6) x f s := by
  have hB : okB B := ok.2.1
  have hT : okT T := ok.2.2.1
  have hb : bM B s := im.2.1
  refine sg_X10_place _ (sp_isNode hB hb (fun n hn hx => ⟨fun q => absurd q (by decide), fun _ => ?_⟩) (fun hn => ⟨fun _ => h3 hn, fun q => absurd rfl q⟩))
  rw [hx]
  exact sp_placeM (B := B) (T := T) (h := h) hB hT im.wM hn (fun s1 hf1 => h1 n s1 hn hx (wm_sc hf1))
theorem ms_howMany (ok : okG ((pl, cs), B, T, h, (L, F), c1, c2, c3)) (im : IM ((pl, cs), B, T, h, (L, F), c1, c2, c3) s)
    (h1 : ∀ y, y < 10 → x = nI y → f (ctV pl B T h L c1 c2 c3 y) s) (h2 : (∀ y, y < 10 → ¬ x = nI y) → f (-1002) s) : cl_X10_howMany G (N + 1) x f s := by
  obtain ⟨i1, i2, i3, i4, i5, i6, i7, i8⟩ := im
  have hL : okL (bN B) L F := ok.2.2.2.2
  obtain ⟨hL12, hF12⟩ := hL.lt (okB.le ok.2.1)
  have e9 : s.1 34 9 = nI L := i4.2.2.2.2.1
  have go : ∀ y, y < 10 → x = nI y → ∀ v, ctV pl B T h L c1 c2 c3 y = v → f v s := fun y hy hw v hv => by rw [← hv]; exact h1 y hy hw
  refine sg_X10_howMany _ ?_
  rw [e9]
  refine ⟨fun e => go 0 (by omega) e _ i2.1.symm, fun e => go 1 (by omega) e _ ?_, fun e => go 2 (by omega) e _ i1.1.symm, fun e => go 3 (by omega) e _ i3.1.symm, fun e => go 4 (by omega) e _ i4.1.symm, fun e => sp_onesM hL12 (go 5 (by omega) e _ rfl), fun e => go 6 (by omega) e _ i7.1.symm, fun e => go 7 (by omega) e _ i4.2.1.symm, fun e => go 8 (by omega) e _ i4.2.2.1.symm, fun e => go 9 (by omega) e _ i4.2.2.2.1.symm, fun e0 e1 e2 e3 e4 e5 e6 e7 e8 e9 => h2 (fun y hy e => ?_)⟩
  · rw [i2.1, i2.2.1]; rfl
  · have : y = 0 ∨ y = 1 ∨ y = 2 ∨ y = 3 ∨ y = 4 ∨ y = 5 ∨ y = 6 ∨ y = 7 ∨ y = 8 ∨ y = 9 := by omega
    rcases this with q | q | q | q | q | q | q | q | q | q <;> subst q
    · exact e0 e
    · exact e1 e
    · exact e2 e
    · exact e3 e
    · exact e4 e
    · exact e5 e
    · exact e6 e
    · exact e7 e
    · exact e8 e
    · exact e9 e
theorem ms_count (ok : okG ((pl, cs), B, T, h, (L, F), c1, c2, c3)) (im : IM ((pl, cs), B, T, h, (L, F), c1, c2, c3) s)
    (h1 : ∀ y, y < 10 → x = nI y → f (ctV pl B T h L c1 c2 c3 y) s) (h2 : (∀ y, y < 10 → ¬ x = nI y) → f (-1002) s) : cl_X10_count G (N + 2) x f s := sg_X10_count _ (ms_howMany ok im h1 h2)
end CM
