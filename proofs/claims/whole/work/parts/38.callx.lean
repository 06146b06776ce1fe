def pPg (a k : Nat) : Bool := a == 2 || (a == 1 && k == 1)
def stT (pl : Nat) (cs : Nat → Nat) : gT := (pl, fun t => (figN (cs t)).getD 0)
def ndV (B : gB) (T : gT) (h L F n : Nat) : Nat → Int32
  | 0 => nI (bK B n)
  | 1 => if 0 < pinsN (bK B n) then nI (bD B (2 * n + 0)) else -1
  | 2 => if 1 < pinsN (bK B n) then nI (bD B (2 * n + 1)) else -1
  | 3 => nI (hisN B T 0 T.1 n)
  | 4 => nI (mrkN B T 0 T.1 n)
  | 5 => nI (hisN B T h T.1 n)
  | 6 => nI (mrkN B T h T.1 n)
  | 7 => if badN B T h n then 1 else 0
  | 8 => figI (fiN B T h n)
  | _ => if L.testBit n then nI (bitN F n) else -1
def suV (B : gB) (T : gT) (L F : Nat) : Nat → Int32
  | 0 => nI (cntN (bbF B T) (nfN B) L F)
  | 1 => figI (nxN (bbF B T) (nfN B) (bN B) L F)
  | 2 => nI (foN (gMax (stepsN (bbF B T) (nfN B) (bN B) L F)) (fit (bbF B T) L F) (nfN B))
  | 3 => nI (foN (gSum (stepsN (bbF B T) (nfN B) (bN B) L F)) (fit (bbF B T) L F) (nfN B))
  | _ => nI (foN (gMax (restN (bbF B T) (nfN B) (bN B) L F)) (fit (bbF B T) L F) (nfN B))
def spV (B : gB) (T : gT) (L F i : Nat) : Nat → Int32
  | 0 => nI ((flN B).getD i 0)
  | 1 => nI (restN (bbF B T) (nfN B) (bN B) L F i)
  | _ => nI (stepsN (bbF B T) (nfN B) (bN B) L F i)
def ctV (pl : Nat) (B : gB) (T : gT) (h L : Nat) (c1 c2 c3 : Int32) : Nat → Int32
  | 0 => nI B.1
  | 1 => nI (bN B) - nI B.1
  | 2 => nI pl
  | 3 => nI T.1
  | 4 => nI h
  | 5 => nI (fb_ct (fun n => L.testBit n) 12)
  | 6 => nI (flN B).length
  | 7 => c1
  | 8 => c2
  | _ => c3
theorem stT_ok {pl : Nat} {cs : Nat → Nat} (h : stopF pl cs pl) : okT (stT pl cs) := by
  refine ⟨h.2.1, fun t ht => ?_⟩
  have := h.2.2.1 t ht
  show (figN (cs t)).getD 0 < 16
  cases e : figN (cs t) with
  | none => exact absurd e this
  | some v => exact figN_lt e
theorem ge32 {x : Int32} (h : ¬ x < 32) : ¬ x < 0 := by
  intro q
  have a := Int32.lt_iff_toInt_lt.mp q
  have b := Int32.le_iff_toInt_le.mp (Int32.not_lt.mp h)
  have e32 : (32 : Int32).toInt = 32 := by decide
  have e0 : (0 : Int32).toInt = 0 := by decide
  omega
section CX
variable {G : gp_G} {N : Nat} {s s' : gp_S} {pl : Nat} {cs : Nat → Nat} {B : gB} {T : gT} {h L F : Nat} {LF : Nat × Nat} {c1 c2 c3 : Int32} {x w : Int32} {f : Int32 → gp_S → Prop}
theorem IX.page {pl' : Nat} {cs' : Nat → Nat} (ix : IX ((pl, cs), B, T, h, LF, c1, c2, c3) s) (hf : fm pPg s s') (hp : pgX pl' cs' s') : IX ((pl', cs'), B, T, h, LF, c1, c2, c3) s' := by
  obtain ⟨i1, i2, i3, i4, i5, i6, i7, i8, i9, i10, i11, i12, i13⟩ := ix
  exact ⟨hp, i2.fm hf, i3.fm hf, ⟨by rw [hf.i 0 11]; exact i4.1, by rw [hf.i 0 12]; exact i4.2.1, by rw [hf.i 0 13]; exact i4.2.2.1, by rw [hf.i 24 2]; exact i4.2.2.2⟩, i5.fm hf, i6.fm hf, i7.fm hf, by rw [hf.i 20 3]; exact i8.fm hf, i9.fm hf, i10.fm hf, i11.fm hf, i12.fm hf, i13.fm hf⟩
theorem xs_letter (ok : okG ((pl, cs), B, T, h, LF, c1, c2, c3)) (ix : IX ((pl, cs), B, T, h, LF, c1, c2, c3) s)
    (h1 : ∀ c s', 32 ≤ c → c ≤ 126 → x = nI c → pl < 40 → keepM s s' → IX ((pl + 1, va_up cs pl c), B, T, h, LF, c1, c2, c3) s' → f (nI (pl + 1)) s')
    (h2 : ∀ c, 32 ≤ c → c ≤ 126 → x = nI c → ¬ pl < 40 → f (-1004) s)
    (h3 : (∀ c, 32 ≤ c → c ≤ 126 → ¬ x = nI c) → f (-1002) s) : cl_X9_letter G (N + 1) x f s := by
  have hpl : pl ≤ 40 := ok.1.1
  have e11 : s.1 1 1 = nI pl := ix.1.1
  refine sg_X9_letter _ ?_
  by_cases e1 : x < 32
  · exact ⟨fun _ => h3 (fun c hc hc2 e => by rw [e] at e1; exact nI_nlt (b := 32) hc (by omega) e1), fun q => absurd e1 q⟩
  · refine ⟨fun q => absurd q e1, fun _ => ⟨fun e2 => ?_, fun e2 => h3 (fun c _ hc e => e2 (by rw [e]; exact nI_le (b := 126) hc (by omega)))⟩⟩
    obtain ⟨c, hc, rfl⟩ := nI_of (ge32 e1)
    have hc1 : 32 ≤ c := Nat.not_lt.mp (fun q => e1 (nI_lt (b := 32) q (by omega)))
    have hc2 : c ≤ 126 := (nI_leI (b := 126) hc (by omega)).mp e2
    rw [e11]
    refine pk_lt pl 40 (fun q => ?_) (fun q => h2 c hc1 hc2 rfl (Nat.not_lt.mpr q))
    refine sg_X3_append _ ?_
    rw [e11, nI_1 pl, nI_clamp (show pl < 2 ^ 31 by omega)]
    refine ⟨fun q2 => absurd q2 (nI_ge (a := pl) (b := 40) q (by omega)), fun _ => ⟨vp_in_nI q (by omega), ?_⟩⟩
    have e : (gp_ui (gp_ui s 2 pl (nI c)) 1 1 (nI (pl + 1))).1 1 1 = nI (pl + 1) := by simp [ui_at]
    rw [e]
    refine h1 c _ hc1 hc2 rfl q ((keepM.rfl.ui 2 _ _).ui 1 _ _) (ix.page ((fm_rfl.ui 2 _ _).ui 1 1 _) ⟨e, fun i hi => ?_⟩)
    rw [ui_at, if_neg (by omega), ui_at]
    by_cases e : i = pl
    · rw [e, if_pos ⟨rfl, rfl⟩]; show nI c = nI (va_up cs pl c pl); unfold va_up; rw [if_pos rfl]
    · rw [if_neg (by omega)]; show _ = nI (va_up cs pl c i); unfold va_up; rw [if_neg e]; exact ix.1.2 i (show i < pl by omega)
theorem xs_blank (ix : IX ((pl, cs), B, T, h, LF, c1, c2, c3) s) (h1 : ∀ s', keepM s s' → IX ((0, cs), B, T, h, LF, c1, c2, c3) s' → f (nI pl) s') : cl_X9_blank G (N + 1) f s := by
  have e11 : s.1 1 1 = nI pl := ix.1.1
  refine sg_X9_blank (sg_X3_clear ?_)
  rw [e11]
  exact h1 _ (keepM.rfl.ui 1 _ _) (ix.page (fm_rfl.ui 1 1 _) ⟨by simp [ui_at]; rfl, fun i hi => absurd hi (Nat.not_lt_zero i)⟩)
theorem xs_fault (ok : okG ((pl, cs), B, T, h, LF, c1, c2, c3)) (ix : IX ((pl, cs), B, T, h, LF, c1, c2, c3) s)
    (h1 : x = 0 → ∀ k A s', stopP pl cs k A → keepM s s' → IX ((pl, cs), B, T, h, LF, c1, c2, c3) s' → f (nI k) s')
    (h2 : ¬ x = 0 → ∀ k, stopF pl cs k → f (nI k) s) : cl_X9_fault G (N + 4) x f s :=
  sg_X9_fault _ ⟨fun e => sp_readX ok.1 ix.1 (fun k A s1 hk _ hf => h1 e k A s1 hk (hf.keepM (fun a k ha => by simp only [pX, Bool.or_eq_false_iff, beq_eq_false_iff_ne]; omega)) (ix.draft hf)), fun e => sp_misfit ok.1 ix.1 (fun k hk => h2 e k hk)⟩
theorem xs_simN (ok : okG ((pl, cs), B, T, h, LF, c1, c2, c3)) {h' : Nat} (hh : okH B h') (ix : IX ((pl, cs), B, T, h, LF, c1, c2, c3) s) {f : gp_S → Prop} (h1 : ∀ s', keepM s s' → IX ((pl, cs), B, T, h', (0, 0), c1, c2, c3) s' → f s') : cl_X9_simulateNow G (N + 17) f (gp_ui s 0 11 (nI h')) := by
  obtain ⟨o1, o2, o3, o4, o5⟩ := ok
  obtain ⟨i1, i2, i3, i4, i5, i6, i7, i8, i9, i10, i11, i12, i13⟩ := ix
  have hf : fm (fun a k => a == 0 && k == 11) s (gp_ui s 0 11 (nI h')) := fm_rfl.ui 0 11 _
  refine sp_simN (h := h') o2 o3 hh (i2.fm hf) (i3.fm hf) (i5.fm hf) (by rw [ui_at, if_pos ⟨rfl, rfl⟩]) (i6.fm hf) (i10.fm hf) (fun s5 hf5 r1 r2 r3 r4 r5 => ?_)
  refine h1 s5 ?_ ⟨(i1.fm hf).fm hf5, (i2.fm hf).fm hf5, (i3.fm hf).fm hf5, ⟨?_, ?_, ?_, ?_⟩, r3, (i6.fm hf).fm hf5, r1, ?_, (i9.fm hf).fm hf5, (i10.fm hf).fm hf5, r4, r5, r2⟩
  · refine (keepM.rfl.ui 0 _ _).trans (hf5.keepM (fun a k ha => ?_))
    simp only [pSN, Bool.or_eq_false_iff, Bool.and_eq_false_iff, beq_eq_false_iff_ne]; omega
  · rw [hf5.i 0 11, ui_at, if_pos ⟨rfl, rfl⟩]
  · rw [hf5.i 0 12, hf.i 0 12]; exact i4.2.1
  · rw [hf5.i 0 13, hf.i 0 13]; exact i4.2.2.1
  · rw [hf5.i 24 2, hf.i 24 2]; exact i4.2.2.2
  · rw [hf5.i 20 3, hf.i 20 3]; exact (i8.fm hf).fm hf5
theorem xs_hurt (ok : okG ((pl, cs), B, T, h, LF, c1, c2, c3)) (ix : IX ((pl, cs), B, T, h, LF, c1, c2, c3) s)
    (h1 : ∀ h' s', okH B h' → x = nI h' → keepM s s' → IX ((pl, cs), B, T, h', (0, 0), c1, c2, c3) s' → f (nI h) s')
    (h2 : ¬ x = 0 → (∀ i, i < (flN B).length → ¬ x = nI ((flN B).getD i 0)) → f (-1001) s) : cl_X9_hurt G (N + 18) x f s := by
  have e11 : s.1 0 11 = nI h := ix.2.2.2.1.1
  have hl : lst s 21 (s.1 20 3) (flN B) := ix.2.2.2.2.2.2.2.1
  have hB : okB B := ok.2.1
  have hlen := flN_len hB
  refine sg_X9_hurt _ ⟨fun e => ?_, fun e => sp_indexX hB hl (fun i hi hx => ⟨fun _ => ?_, fun q => absurd q (nI_m1 i (by omega))⟩) (fun hn => ⟨fun q => absurd rfl q, fun _ => h2 e hn⟩)⟩
  · have e2 : x = nI 0 := e
    rw [e2, e11]
    exact xs_simN ok (Or.inl rfl) ix (fun s' km ix' => h1 0 s' (Or.inl rfl) e2 km ix')
  · have hm := okH_mem.mpr (Or.inr (flN_get hi))
    rw [hx, e11]
    exact xs_simN ok hm ix (fun s' km ix' => h1 _ s' hm hx km ix')
theorem sp_readT {f : gp_S → Prop} (hP : okP pl cs) (hg : pgX pl cs s) (hs : stopF pl cs pl) (h1 : ∀ s', fm (fun a k => a == 10 || (a == 9 && k == 1)) s s' → tX (stT pl cs) s' → f s') : cl_X6_read_o1 G (N + 1) f s := by
  have hpl : pl ≤ 16 := hs.2.1
  refine sg_X6_read_o1 ?_
  rw [hg.1, if_neg (show ¬ (16 : Int32) < nI pl from nI_nlt (a := 16) (b := pl) hpl (by omega))]
  have key : ∀ (m t : Nat) (s2 : gp_S), t + m = pl → fm (fun a k => a == 10 || (a == 9 && k == 1)) s s2 → s2.1 9 1 = nI pl → (∀ j, j < t → s2.1 10 j = nI ((stT pl cs).2 j)) → at_X6_read_o1_15 G (N + 1) (nI t) f s2 := by
    intro m
    induction m with
    | zero =>
      intro t s2 ht hf e9 hj
      refine sg_X6_read_o1_15 _ ?_
      rw [e9]
      exact pk_le pl t (fun _ => h1 s2 hf ⟨e9, fun j hj' => hj j (by have : j < pl := hj'; omega)⟩) (fun q => absurd q (by omega))
    | succ m ih =>
      intro t s2 ht hf e9 hj
      refine sg_X6_read_o1_15 _ ?_
      have hc := hP.2 t (by omega)
      rw [e9, nI_clamp (show t < 2 ^ 31 by omega), hf.i 2 t, hg.2 t (by omega), nI_1 t]
      refine pk_le pl t (fun q => absurd q (by omega)) (fun _ => ⟨vp_in_nI (by omega) (by omega), sp_figX hc ⟨vp_in_nI (by omega) (by omega), ih (t + 1) _ (by omega) (hf.ui 10 _ _) (by rw [ui_at, if_neg (by omega)]; exact e9) (fun j hj' => ?_)⟩⟩)
      rw [ui_at]
      by_cases e : j = t
      · rw [if_pos ⟨rfl, e⟩, e]
        show _ = nI ((figN (cs t)).getD 0)
        have := hs.2.2.1 t (by omega)
        cases e2 : figN (cs t) with
        | none => exact absurd e2 this
        | some v => rfl
      · rw [if_neg (by omega)]; exact hj j (by omega)
  exact key pl 0 _ (by omega) (fm_rfl.ui 9 1 _) (by rw [ui_at, if_pos ⟨rfl, rfl⟩]) (fun j hj => absurd hj (Nat.not_lt_zero j))
theorem xs_stimulus (ok : okG ((pl, cs), B, T, h, LF, c1, c2, c3)) (ix : IX ((pl, cs), B, T, h, LF, c1, c2, c3) s)
    (h0 : (∀ k, stopF pl cs k → pl = 0 ∨ k < pl) → f (-1003) s)
    (h1 : ∀ s', stopF pl cs pl → pl ≠ 0 → keepM s s' → IX ((0, cs), B, stT pl cs, h, (0, 0), c1, c2 + 1, c3) s' → f (nI pl) s') : cl_X9_stimulus G (N + 18) f s := by
  obtain ⟨o1, o2, o3, o4, o5⟩ := ok
  obtain ⟨i1, i2, i3, i4, i5, i6, i7, i8, i9, i10, i11, i12, i13⟩ := ix
  have e11 : s.1 1 1 = nI pl := i1.1
  have hpl : pl ≤ 40 := o1.1
  refine sg_X9_stimulus ?_
  rw [e11]
  refine pk_eq pl 0 (fun e => h0 (fun _ _ => Or.inl e)) (fun e => sp_misfit (N := N + 16) o1 i1 (fun k hk => ?_))
  have hkl : k ≤ pl := hk.1
  rw [e11]
  refine pk_le pl k (fun q => ?_) (fun q => h0 (fun j hj => Or.inr (by rw [stopF_one hj hk]; exact q)))
  have hk2 : stopF pl cs pl := by rw [show pl = k from by omega] at hk ⊢; exact hk
  refine sp_readT (N := N + 16) o1 i1 hk2 (fun s2 hf2 ht2 => sg_X3_clear ?_)
  have hT := stT_ok hk2
  have hf3 : fm (fun a k => a == 10 || (a == 9 && k == 1) || (a == 1 && k == 1) || (a == 0 && k == 13)) s (gp_ui (gp_ui s2 1 1 0) 0 13 ((gp_ui s2 1 1 0).1 0 13 + 1)) := ((hf2.mono (sub_bool (by intro a k; simp only [Bool.or_eq_true, beq_iff_eq, Bool.and_eq_true]; omega))).ui 1 1 _).ui 0 13 _
  have ht3 : tX (stT pl cs) (gp_ui (gp_ui s2 1 1 0) 0 13 ((gp_ui s2 1 1 0).1 0 13 + 1)) := ht2.fm (show fm (fun a k => (a == 1 && k == 1) || (a == 0 && k == 13)) s2 _ from (fm_rfl.ui 1 1 _).ui 0 13 _)
  have e13 : (gp_ui (gp_ui s2 1 1 0) 0 13 ((gp_ui s2 1 1 0).1 0 13 + 1)).1 0 13 = c2 + 1 := by
    simp only [ui_at]
    simp
    rw [hf2.i 0 13, i4.2.2.1]
  have hb3 := i2.fm hf3
  refine sp_simF (N := N + 12) o2 hT hb3 ht3 (i5.fm hf3) (fun s4 hf4 q1 q2 q3 q4 q5 => ?_)
  refine sp_simN (h := h) o2 hT o4 (hb3.fm hf4) (ht3.fm hf4) q5 (by rw [hf4.i 0 11, hf3.i 0 11]; exact i4.1) q1 q4 (fun s5 hf5 r1 r2 r3 r4 r5 => ?_)
  have e9 : s5.1 9 1 = nI pl := ((ht3.fm hf4).fm hf5).1
  rw [e9]
  refine h1 s5 hk2 e ?_ ⟨⟨?_, fun i hi => absurd hi (Nat.not_lt_zero i)⟩, (hb3.fm hf4).fm hf5, (ht3.fm hf4).fm hf5, ⟨?_, ?_, ?_, ?_⟩, r3, q1.fm hf5, r1, ?_, q3.fm hf5, q4.fm hf5, r4, r5, r2⟩
  · refine ((hf3.keepM (fun a k ha => ?_)).trans (hf4.keepM (fun a k ha => ?_))).trans (hf5.keepM (fun a k ha => ?_))
    · simp only [Bool.or_eq_false_iff, Bool.and_eq_false_iff, beq_eq_false_iff_ne]; omega
    · simp only [pSF, Bool.or_eq_false_iff, Bool.and_eq_false_iff, beq_eq_false_iff_ne]; omega
    · simp only [pSN, Bool.or_eq_false_iff, Bool.and_eq_false_iff, beq_eq_false_iff_ne]; omega
  · rw [hf5.i 1 1, hf4.i 1 1]; simp [ui_at]; rfl
  · rw [hf5.i 0 11, hf4.i 0 11, hf3.i 0 11]; exact i4.1
  · rw [hf5.i 0 12, hf4.i 0 12, hf3.i 0 12]; exact i4.2.1
  · rw [hf5.i 0 13, hf4.i 0 13]; exact e13
  · rw [hf5.i 24 2, hf4.i 24 2, hf3.i 24 2]; exact i4.2.2.2
  · rw [hf5.i 20 3]; exact q2.fm hf5
theorem badN_iff {n : Nat} : badN B T h n = true ↔ mrkN B T h T.1 n ≠ mrkN B T 0 T.1 n := by unfold badN; exact decide_eq_true_iff
theorem xs_isBad (hB : okB B) (hg : hsX 15 16 B T 0 s) (hw : hsX 18 19 B T h s) {n : Nat} (hn : n < bN B) (h1 : f (if badN B T h n then 1 else 0) s) : cl_X2_isBad_o17_o14 G N (nI n) f s := by
  have hN := hB.le
  refine sg_X2_isBad_o17_o14 _ ⟨vp_in_nI (by omega) (by omega), vp_in_nI (by omega) (by omega), ?_⟩
  have a1 := @mrkN_lt B T h n T.1
  have a2 := @mrkN_lt B T 0 n T.1
  rw [nI_clamp (by omega), (hw.1 n hn).2, (hg.1 n hn).2]
  refine pk_eq (mrkN B T h T.1 n) (mrkN B T 0 T.1 n) (fun e => ?_) (fun e => ?_)
  · rw [if_neg (fun q => badN_iff.mp q e)] at h1; exact h1
  · rw [if_pos (badN_iff.mpr e)] at h1; exact h1
theorem xs_node (ok : okG ((pl, cs), B, T, h, (L, F), c1, c2, c3)) (ix : IX ((pl, cs), B, T, h, (L, F), c1, c2, c3) s)
    (h1 : ∀ n y, n < bN B → y < 10 → x = nI n → w = nI y → f (ndV B T h L F n y) s)
    (h2 : ∀ n, n < bN B → x = nI n → (∀ y, y < 10 → ¬ w = nI y) → f (-1002) s)
    (h3 : (∀ n, n < bN B → ¬ x = nI n) → f (-1001) s) : cl_X9_node G (N + 2) x w f s := by
  obtain ⟨o1, o2, o3, o4, o5⟩ := ok
  obtain ⟨i1, i2, i3, i4, i5, i6, i7, i8, i9, i10, i11, i12, i13⟩ := ix
  have hN := okB.le o2
  refine sg_X9_node _ _ (sp_hasX o2 i2 (fun n hn hx => ⟨fun _ => ?_, fun q => absurd q (by decide)⟩) (fun hn => ⟨fun q => absurd rfl q, fun _ => h3 hn⟩))
  subst hx
  have hN : bN B ≤ 12 := hN
  have hn : n < bN B := hn
  have hin : vp_in (nI n) 12 := vp_in_nI (by omega) (by omega)
  rw [nI_clamp (show n < 2 ^ 31 by omega)]
  have go : ∀ y, y < 10 → w = nI y → ∀ v, ndV B T h L F n y = v → f v s := fun y hy hw v hv => by rw [← hv]; exact h1 n y hn hy rfl hw
  have j6 : hsX 15 16 B T 0 s := i6
  have j7 : hsX 18 19 B T h s := i7
  have j2 : bX B s := i2
  have j13 : fsX (fiN B T h) (bN B) s := i13
  have j11 : prX L F s := i11
  refine ⟨fun e => ⟨hin, go 0 (by omega) e _ ?_⟩, fun e => sp_drvX (p := 0) o2 i2 hn (by omega) (go 1 (by omega) e _ rfl), fun e => sp_drvX (p := 1) o2 i2 hn (by omega) (go 2 (by omega) e _ rfl), fun e => ⟨hin, go 3 (by omega) e _ ?_⟩, fun e => ⟨hin, go 4 (by omega) e _ ?_⟩, fun e => ⟨hin, go 5 (by omega) e _ ?_⟩, fun e => ⟨hin, go 6 (by omega) e _ ?_⟩, fun e => xs_isBad (B := B) (T := T) (h := h) o2 j6 j7 hn ?_, fun e => ⟨hin, go 8 (by omega) e _ ?_⟩, fun e => ⟨hin, go 9 (by omega) e _ ?_⟩, fun e0 e1 e2 e3 e4 e5 e6 e7 e8 e9 => h2 n hn rfl (fun y hy e => ?_)⟩
  · exact (j2.2.2.1 n hn).symm
  · exact (j6.1 n hn).1.symm
  · exact (j6.1 n hn).2.symm
  · exact (j7.1 n hn).1.symm
  · exact (j7.1 n hn).2.symm
  · have := go 7 (by omega) e _ rfl
    cases hb : badN B T h n with
    | false => exact ⟨fun _ => by rw [show ndV B T h L F n 7 = if badN B T h n then 1 else 0 from rfl, hb] at this; exact this, fun q => absurd rfl q⟩
    | true => exact ⟨fun q => absurd q (by decide), fun _ => by rw [show ndV B T h L F n 7 = if badN B T h n then 1 else 0 from rfl, hb] at this; exact this⟩
  · exact (j13 n hn).symm
  · exact (j11.1 n (by omega)).symm
  · have : y = 0 ∨ y = 1 ∨ y = 2 ∨ y = 3 ∨ y = 4 ∨ y = 5 ∨ y = 6 ∨ y = 7 ∨ y = 8 ∨ y = 9 := by omega
    rcases this with q | q | q | q | q | q | q | q | q | q <;> subst q
    · exact e0 e
    · exact e1 e
    · exact e2 e
    · exact e3 e
    · exact e4 e
    · exact e5 e
    · exact e6 e
    · exact e7 e
    · exact e8 e
    · exact e9 e
theorem xs_shows (ok : okG ((pl, cs), B, T, h, LF, c1, c2, c3)) (ix : IX ((pl, cs), B, T, h, LF, c1, c2, c3) s)
    (h1 : ∀ i, i < nfN B → x = nI ((flN B).getD i 0) → w = 0 → f (nI (bbF B T i)) s)
    (h1' : ∀ i, i < nfN B → x = nI ((flN B).getD i 0) → w = 1 → f (nI (uuF B T i)) s)
    (h2 : ∀ i, i < nfN B → x = nI ((flN B).getD i 0) → ¬ w = 0 → ¬ w = 1 → f (-1002) s)
    (h3 : (∀ i, i < nfN B → ¬ x = nI ((flN B).getD i 0)) → f (-1001) s) : cl_X9_shows G (N + 1) x w f s := by
  have hl : lst s 21 (s.1 20 3) (flN B) := ix.2.2.2.2.2.2.2.1
  have hs : shX B T s := ix.2.2.2.2.2.2.2.2.1
  have hB : okB B := ok.2.1
  have hlen := flN_len hB
  refine sg_X9_shows _ _ (sp_indexX hB hl (fun i hi hx => ⟨fun _ => ?_, fun q => absurd q (nI_m1 i (by omega))⟩) (fun hn => ⟨fun q => absurd rfl q, fun _ => h3 hn⟩))
  have hin : vp_in (nI i) 40 := vp_in_nI (by omega) (by omega)
  rw [nI_clamp (show i < 2 ^ 31 by omega), (hs i hi).1, (hs i hi).2]
  exact ⟨fun e => ⟨hin, h1 i hi hx e⟩, fun e => ⟨hin, h1' i hi hx e⟩, fun e0 e1 => h2 i hi hx e0 e1⟩
theorem ct_or {n : Nat} (hn : n < 12) (hb : L.testBit n = false) : fb_ct (fun m => (L ||| 2 ^ n).testBit m) 12 = fb_ct (fun m => L.testBit m) 12 + 1 := by
  have h1 := unL_or hn hb
  have h2 := fb_ct_not (fun m => L.testBit m) 12
  have h3 := fb_ct_not (fun m => (L ||| 2 ^ n).testBit m) 12
  unfold unL at h1
  omega
theorem xs_probe (ok : okG ((pl, cs), B, T, h, (L, F), c1, c2, c3)) (ix : IX ((pl, cs), B, T, h, (L, F), c1, c2, c3) s)
    (h1 : ∀ n s', n < bN B → x = nI n → L.testBit n = false → keepM s s' → IX ((pl, cs), B, T, h, (L ||| 2 ^ n, if badN B T h n then F ||| 2 ^ n else F), c1, c2, c3 + 1) s' → f (if badN B T h n then 1 else 0) s')
    (h2 : ∀ n, n < bN B → x = nI n → L.testBit n = true → f (-1003) s)
    (h3 : (∀ n, n < bN B → ¬ x = nI n) → f (-1001) s) : cl_X9_probe G (N + 16) x f s := by
  have ix0 := ix
  obtain ⟨o1, o2, o3, o4, o5⟩ := ok
  obtain ⟨i1, i2, i3, i4, i5, i6, i7, i8, i9, i10, i11, i12, i13⟩ := ix
  have hN : bN B ≤ 12 := okB.le o2
  have hlen : nfN B ≤ 40 := flN_len o2
  refine sg_X9_probe _ (sp_hasX o2 i2 (fun n hn hx => ⟨fun _ => ?_, fun q => absurd q (by decide)⟩) (fun hn => ⟨fun q => absurd rfl q, fun _ => h3 hn⟩))
  subst hx
  have hn : n < bN B := hn
  have hin : vp_in (nI n) 12 := vp_in_nI (by omega) (by omega)
  rw [nI_clamp (show n < 2 ^ 31 by omega)]
  refine ⟨hin, ?_⟩
  have j11 : prX L F s := i11
  have o5' : okL (bN B) L F := o5
  have e25 := j11.1 n (by omega)
  cases hb : L.testBit n with
  | true =>
    rw [hb, if_pos rfl] at e25
    have := bitN_le F n
    rw [e25]
    exact ⟨fun q => absurd q (nI_m1 _ (by omega)), fun _ => h2 n hn rfl hb⟩
  | false =>
    rw [hb, if_neg (by decide)] at e25
    have hF : F.testBit n = false := o5'.F hb
    refine ⟨fun _ => xs_isBad (B := B) (T := T) (h := h) o2 i6 i7 hn ?_, fun q => absurd e25 q⟩
    have fin : ∀ (F' : Nat) (v : Int32), F' = (if badN B T h n then F ||| 2 ^ n else F) → v = (if badN B T h n then 1 else 0) → v = nI (bitN F' n) → cl_X7_choose_o24 G (N + 15) (fun s6 => vp_in (nI n) 12 ∧ f (s6.1 25 n) s6) (gp_ui (gp_ui (gp_ui s 25 n v) 24 1 (s.1 24 1 + 1)) 24 2 (s.1 24 2 + 1)) := by
      intro F' v hF' hv hvb
      have hL' : okL (bN B) (L ||| 2 ^ n) F' := by
        rw [hF']; split
        · exact okL_bad o5' hn
        · exact okL_good o5' hn
      have hf : fm (fun a k => a == 25 || (a == 24 && (k == 1 || k == 2))) s (gp_ui (gp_ui (gp_ui s 25 n v) 24 1 (s.1 24 1 + 1)) 24 2 (s.1 24 2 + 1)) := ((fm_rfl.ui 25 _ _).ui 24 1 _).ui 24 2 _
      have hp : prX (L ||| 2 ^ n) F' (gp_ui (gp_ui (gp_ui s 25 n v) 24 1 (s.1 24 1 + 1)) 24 2 (s.1 24 2 + 1)) := by
        refine ⟨fun m hm => ?_, ?_⟩
        · rw [ui_at, if_neg (by omega), ui_at, if_neg (by omega), ui_at, tb_or2]
          by_cases e : m = n
          · rw [if_pos ⟨rfl, e⟩, e, hvb]; simp
          · rw [if_neg (by omega), j11.1 m hm]
            have e1 : decide (n = m) = false := by simp; omega
            rw [e1, Bool.or_false]
            split
            · have : bitN F' m = bitN F m := by
                rw [hF']; unfold bitN
                split
                · rw [tb_or2, e1, Bool.or_false]
                · rfl
              rw [this]
            · rfl
        · rw [ui_at, if_neg (by omega), ui_at, if_pos ⟨rfl, rfl⟩, j11.2, nI_1, ct_or (by omega) hb]
      refine sp_choose (bb := bbF B T) (nf := nfN B) (nn := bN B) hlen hN hL' (fun i _ => bbF_lt i) (i10.fm hf) hp (fun s6 hf6 hs6 => ⟨hin, ?_⟩)
      have e6 : s6.1 25 n = if badN B T h n then 1 else 0 := by rw [hf6.i 25 n, ui_at, if_neg (by omega), ui_at, if_neg (by omega), ui_at, if_pos ⟨rfl, rfl⟩, hv]
      rw [e6]
      refine h1 n s6 hn rfl hb ?_ ?_
      · refine (((keepM.rfl.ui 25 _ _).ui 24 _ _).ui 24 _ _).trans (hf6.keepM (fun a k ha => ?_))
        simp only [pCh, Bool.or_eq_false_iff, Bool.and_eq_false_iff, beq_eq_false_iff_ne]; omega
      · rw [← hF']
        refine ⟨(i1.fm hf).fm hf6, (i2.fm hf).fm hf6, (i3.fm hf).fm hf6, ⟨?_, ?_, ?_, ?_⟩, (i5.fm hf).fm hf6, (i6.fm hf).fm hf6, (i7.fm hf).fm hf6, ?_, (i9.fm hf).fm hf6, (i10.fm hf).fm hf6, hp.fm hf6, hs6, (i13.fm hf).fm hf6⟩
        · rw [hf6.i 0 11, hf.i 0 11]; exact i4.1
        · rw [hf6.i 0 12, hf.i 0 12]; exact i4.2.1
        · rw [hf6.i 0 13, hf.i 0 13]; exact i4.2.2.1
        · rw [hf6.i 24 2, ui_at, if_pos ⟨rfl, rfl⟩, i4.2.2.2]
        · rw [hf6.i 20 3, hf.i 20 3]; exact (i8.fm hf).fm hf6
    cases hbd : badN B T h n with
    | false =>
      refine sg_X4_add _ _ ⟨fun _ => ⟨hin, ?_⟩, fun q => absurd rfl q⟩
      rw [nI_clamp (show n < 2 ^ 31 by omega)]
      exact fin F 0 (by rw [hbd]; rfl) (by rw [hbd]; rfl) (by unfold bitN; rw [hF]; rfl)
    | true =>
      refine sg_X4_add _ _ ⟨fun q => absurd q (by decide), fun _ => ⟨hin, ?_⟩⟩
      rw [nI_clamp (show n < 2 ^ 31 by omega)]
      exact fin (F ||| 2 ^ n) 1 (by rw [hbd]; rfl) (by rw [hbd]; rfl) (by unfold bitN; rw [tb_or2]; simp; rfl)
theorem xs_forget (ok : okG ((pl, cs), B, T, h, (L, F), c1, c2, c3)) (ix : IX ((pl, cs), B, T, h, (L, F), c1, c2, c3) s)
    (h1 : ∀ s', keepM s s' → IX ((pl, cs), B, T, h, (0, 0), c1, c2, c3) s' → f (nI (fb_ct (fun n => L.testBit n) 12)) s') : cl_X9_forget G (N + 17) f s := by
  obtain ⟨o1, o2, o3, o4, o5⟩ := ok
  obtain ⟨i1, i2, i3, i4, i5, i6, i7, i8, i9, i10, i11, i12, i13⟩ := ix
  have e1 : s.1 24 1 = nI (fb_ct (fun n => L.testBit n) 12) := i11.2
  refine sg_X9_forget ?_
  rw [e1]
  refine sp_forgP (B := B) (T := T) o2 i10 (fun s1 _ hf r4 r5 => h1 s1 (hf.keepM (fun a k ha => ?_)) ⟨i1.fm hf, i2.fm hf, i3.fm hf, ⟨?_, ?_, ?_, ?_⟩, i5.fm hf, i6.fm hf, i7.fm hf, ?_, i9.fm hf, i10.fm hf, r4, r5, i13.fm hf⟩)
  · simp only [Bool.or_eq_false_iff, Bool.and_eq_false_iff, beq_eq_false_iff_ne]; omega
  · rw [hf.i 0 11]; exact i4.1
  · rw [hf.i 0 12]; exact i4.2.1
  · rw [hf.i 0 13]; exact i4.2.2.1
  · rw [hf.i 24 2]; exact i4.2.2.2
  · rw [hf.i 20 3]; exact i8.fm hf
theorem xs_suspects (ok : okG ((pl, cs), B, T, h, (L, F), c1, c2, c3)) (ix : IX ((pl, cs), B, T, h, (L, F), c1, c2, c3) s)
    (h1 : ∀ y, y < 5 → x = nI y → f (suV B T L F y) s) (h2 : (∀ y, y < 5 → ¬ x = nI y) → f (-1002) s) : cl_X9_suspects G (N + 2) x f s := by
  have hs : suX (bbF B T) (nfN B) (bN B) L F s := ix.2.2.2.2.2.2.2.2.2.2.2.1
  have hN : bN B ≤ 12 := okB.le ok.2.1
  have hlen : nfN B ≤ 40 := flN_len ok.2.1
  refine sg_X9_suspects _ ⟨fun e => ?_, fun e => ?_, fun e => sp_mostX hlen hN hs (h1 2 (by omega) e), fun e => sp_allX hlen hN hs (h1 3 (by omega) e), fun e => sp_restX hlen hN hs (h1 4 (by omega) e), fun e0 e1 e2 e3 e4 => h2 (fun y hy e => ?_)⟩
  · have := h1 0 (by omega) e
    rw [hs.1.1]; exact this
  · have := h1 1 (by omega) e
    rw [hs.2.1]; exact this
  · have : y = 0 ∨ y = 1 ∨ y = 2 ∨ y = 3 ∨ y = 4 := by omega
    rcases this with q | q | q | q | q <;> subst q
    · exact e0 e
    · exact e1 e
    · exact e2 e
    · exact e3 e
    · exact e4 e
theorem xs_suspect (ok : okG ((pl, cs), B, T, h, (L, F), c1, c2, c3)) (ix : IX ((pl, cs), B, T, h, (L, F), c1, c2, c3) s)
    (h1 : ∀ i y, i < nfN B → fit (bbF B T) L F i = true → x = nI (fb_ct (fit (bbF B T) L F) i) → y < 3 → w = nI y → f (spV B T L F i y) s)
    (h2 : ∀ i, i < nfN B → fit (bbF B T) L F i = true → x = nI (fb_ct (fit (bbF B T) L F) i) → (∀ y, y < 3 → ¬ w = nI y) → f (-1002) s)
    (h3 : (∀ j, j < cntN (bbF B T) (nfN B) L F → ¬ x = nI j) → f (-1001) s) : cl_X9_suspect G N x w f s := by
  have hs : suX (bbF B T) (nfN B) (bN B) L F s := ix.2.2.2.2.2.2.2.2.2.2.2.1
  have hl : lst s 21 (s.1 20 3) (flN B) := ix.2.2.2.2.2.2.2.1
  have hlen : nfN B ≤ 40 := flN_len ok.2.1
  have hct : cntN (bbF B T) (nfN B) L F ≤ nfN B := fb_ct_le _ _
  refine sg_X9_suspect _ _ ⟨fun q => h3 (fun j hj e => by rw [e] at q; exact nI_pos (by omega) q), fun q => ?_⟩
  obtain ⟨k, hk, rfl⟩ := nI_of q
  rw [hs.1.1]
  refine pk_lt k (fb_ct (fit (bbF B T) L F) (nfN B)) (fun e => ?_) (fun e => h3 (fun j hj e2 => ?_)) rfl rfl hk (by unfold cntN at hct; omega)
  · obtain ⟨i, hi, hp, hc⟩ := fb_ct_kth e
    have e28 := hs.1.2 i hi hp
    rw [hc] at e28
    rw [nI_clamp hk, e28, nI_clamp (show i < 2 ^ 31 by omega), hl.2 i hi, (hs.2.2 i hi hp).1, (hs.2.2 i hi hp).2]
    have hin : vp_in (nI i) 40 := vp_in_nI (by omega) (by omega)
    have hc' : nI k = nI (fb_ct (fit (bbF B T) L F) i) := by rw [hc]
    refine ⟨vp_in_nI (by unfold cntN at hct; omega) (by omega), fun e => ⟨hin, h1 i 0 hi hp hc' (by omega) e⟩, fun e => ⟨hin, h1 i 1 hi hp hc' (by omega) e⟩, fun e => ⟨hin, h1 i 2 hi hp hc' (by omega) e⟩, fun e0 e1 e2 => h2 i hi hp hc' (fun y hy e => ?_)⟩
    have : y = 0 ∨ y = 1 ∨ y = 2 := by omega
    rcases this with q | q | q <;> subst q
    · exact e0 e
    · exact e1 e
    · exact e2 e
  · have := nI_inj hk (by omega) e2
    unfold cntN at hj
    omega
theorem IX.wayx {a : gA} (ix : IX a s) (hf : fm pWX s s') : IX a s' := by
  obtain ⟨i1, i2, i3, i4, i5, i6, i7, i8, i9, i10, i11, i12, i13⟩ := ix
  exact ⟨i1.fm hf, i2.fm hf, i3.fm hf, i4.fm hf, i5.fm hf, i6.fm hf, i7.fm hf, by rw [hf.i 20 3]; exact i8.fm hf, i9.fm hf, i10.fm hf, i11.fm hf, i12.fm hf, i13.fm hf⟩
theorem wayx_keep (hf : fm pWX s s') : keepM s s' := hf.keepM (fun a k ha => by simp only [pWX, Bool.or_eq_false_iff, Bool.and_eq_false_iff, beq_eq_false_iff_ne]; omega)
theorem xs_way (ok : okG ((pl, cs), B, T, h, LF, c1, c2, c3)) (ix : IX ((pl, cs), B, T, h, LF, c1, c2, c3) s)
    (h1 : ∀ n j s', n < bN B → x = nI n → j < (wayN (fiN B T h) B n).length → w = nI j → keepM s s' → IX ((pl, cs), B, T, h, LF, c1, c2, c3) s' → f (nI ((wayN (fiN B T h) B n).getD j 0)) s')
    (h2 : ∀ n s', n < bN B → x = nI n → (∀ j, j < (wayN (fiN B T h) B n).length → ¬ w = nI j) → keepM s s' → IX ((pl, cs), B, T, h, LF, c1, c2, c3) s' → f (-1) s')
    (h3 : (∀ n, n < bN B → ¬ x = nI n) → f (-1001) s) : cl_X9_way G (N + 4) x w f s := by
  have hB : okB B := ok.2.1
  have hT : okT T := ok.2.2.1
  have hb : bX B s := ix.2.1
  have hfs : fsX (fiN B T h) (bN B) s := ix.2.2.2.2.2.2.2.2.2.2.2.2
  refine sg_X9_way _ _ (sp_hasX hB hb (fun n hn hx => ⟨fun _ => ?_, fun q => absurd q (by decide)⟩) (fun hn => ⟨fun q => absurd rfl q, fun _ => h3 hn⟩))
  rw [hx]
  refine sp_goX hB hb (fiN_lt hT) hfs hn (fun s1 hf1 hl1 => sp_atX (wayN_len hB n) hl1 (fun j hj e => h1 n j s1 hn hx hj e (wayx_keep hf1) (ix.wayx hf1)) (fun hj => h2 n s1 hn hx hj (wayx_keep hf1) (ix.wayx hf1)))
theorem xs_place (ok : okG ((pl, cs), B, T, h, LF, c1, c2, c3)) (ix : IX ((pl, cs), B, T, h, LF, c1, c2, c3) s)
    (h1 : ∀ n s', n < bN B → x = nI n → keepM s s' → IX ((pl, cs), B, T, h, LF, c1, c2, c3) s' → f (lastI (wayN (fiN B T h) B n)) s')
    (h3 : (∀ n, n < bN B → ¬ x = nI n) → f (-1001) s) : cl_X9_place G (N + 4) x f s := by
  have hB : okB B := ok.2.1
  have hT : okT T := ok.2.2.1
  have hb : bX B s := ix.2.1
  have hfs : fsX (fiN B T h) (bN B) s := ix.2.2.2.2.2.2.2.2.2.2.2.2
  refine sg_X9_place _ (sp_hasX hB hb (fun n hn hx => ⟨fun _ => ?_, fun q => absurd q (by decide)⟩) (fun hn => ⟨fun q => absurd rfl q, fun _ => h3 hn⟩))
  rw [hx]
  refine sp_goX hB hb (fiN_lt hT) hfs hn (fun s1 hf1 hl1 => ?_)
  have hw := wayN_len (fi := fiN B T h) hB n
  have fin := h1 n s1 hn hx (wayx_keep hf1) (ix.wayx hf1)
  rw [hl1.1]
  refine sp_atX (wayN_len hB n) hl1 (fun j hj e => ?_) (fun hj => ?_)
  · have e1 : (wayN (fiN B T h) B n).length = ((wayN (fiN B T h) B n).length - 1) + 1 := by omega
    rw [e1, nI_pred] at e
    have := nI_inj (by omega) (by omega) e
    unfold lastI at fin
    rw [if_neg (by omega), this] at fin
    exact fin
  · unfold lastI at fin
    by_cases e : (wayN (fiN B T h) B n).length = 0
    · rw [if_pos e] at fin; exact fin
    · have e1 : (wayN (fiN B T h) B n).length = ((wayN (fiN B T h) B n).length - 1) + 1 := by omega
      exact absurd (by rw [e1, nI_pred]; rfl) (hj ((wayN (fiN B T h) B n).length - 1) (by omega))
theorem xs_count (ok : okG ((pl, cs), B, T, h, (L, F), c1, c2, c3)) (ix : IX ((pl, cs), B, T, h, (L, F), c1, c2, c3) s)
    (h1 : ∀ y, y < 10 → x = nI y → f (ctV pl B T h L c1 c2 c3 y) s) (h2 : (∀ y, y < 10 → ¬ x = nI y) → f (-1002) s) : cl_X9_count G N x f s := by
  obtain ⟨i1, i2, i3, i4, i5, i6, i7, i8, i9, i10, i11, i12, i13⟩ := ix
  have go : ∀ y, y < 10 → x = nI y → ∀ v, ctV pl B T h L c1 c2 c3 y = v → f v s := fun y hy hw v hv => by rw [← hv]; exact h1 y hy hw
  refine sg_X9_count _ ⟨fun e => go 0 (by omega) e _ i2.1.symm, fun e => go 1 (by omega) e _ ?_, fun e => go 2 (by omega) e _ i1.1.symm, fun e => go 3 (by omega) e _ i3.1.symm, fun e => go 4 (by omega) e _ i4.1.symm, fun e => go 5 (by omega) e _ i11.2.symm, fun e => go 6 (by omega) e _ i8.1.symm, fun e => go 7 (by omega) e _ i4.2.1.symm, fun e => go 8 (by omega) e _ i4.2.2.1.symm, fun e => go 9 (by omega) e _ i4.2.2.2.symm, fun e0 e1 e2 e3 e4 e5 e6 e7 e8 e9 => h2 (fun y hy e => ?_)⟩
  · rw [i2.1, i2.2.1]; rfl
  · have : y = 0 ∨ y = 1 ∨ y = 2 ∨ y = 3 ∨ y = 4 ∨ y = 5 ∨ y = 6 ∨ y = 7 ∨ y = 8 ∨ y = 9 := by omega
    rcases this with q | q | q | q | q | q | q | q | q | q <;> subst q
    · exact e0 e
    · exact e1 e
    · exact e2 e
    · exact e3 e
    · exact e4 e
    · exact e5 e
    · exact e6 e
    · exact e7 e
    · exact e8 e
    · exact e9 e
end CX
