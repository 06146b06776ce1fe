theorem bM.fm {B : gB} {s s' : gp_S} {P : Nat → Nat → Bool} (hb : bM B s) (hf : fm P s s') (h2 : P 34 2 = false := by rfl) (h3 : P 34 3 = false := by rfl) (h4 : ∀ k, P 36 k = false := by intro k; rfl) (h5 : ∀ k, P 37 k = false := by intro k; rfl) : bM B s' :=
  ⟨by rw [hf.i 34 2 h2]; exact hb.1, by rw [hf.i 34 3 h3]; exact hb.2.1, fun n hn => by rw [hf.i 36 n (h4 n)]; exact hb.2.2.1 n hn, fun n p hn hp => by rw [hf.i 37 _ (h5 _)]; exact hb.2.2.2 n p hn hp⟩
theorem tM.fm {T : gT} {s s' : gp_S} {P : Nat → Nat → Bool} (hb : tM T s) (hf : fm P s s') (h2 : P 34 6 = false := by rfl) (h4 : ∀ k, P 38 k = false := by intro k; rfl) : tM T s' :=
  ⟨by rw [hf.i 34 6 h2]; exact hb.1, fun n hn => by rw [hf.i 38 n (h4 n)]; exact hb.2 n hn⟩
theorem fr.fm {l : List Nat} {s s' : gp_S} {P : Nat → Nat → Bool} (hf : fr l s s') (hl : ∀ a k, P a k = false → a ∉ l) : fm P s s' := fun a k hp => ⟨by rw [(hf a (hl a k hp)).1], by rw [(hf a (hl a k hp)).2]⟩
theorem fm.ua {P : Nat → Nat → Bool} {s s1 : gp_S} (h : fm P s s1) (a : Nat) (g : Nat → Int32) (hp : ∀ k, P a k = true := by intro k; rfl) : fm P s (gp_ua s1 a g) := by
  intro b j hq
  have hb : b ≠ a := fun e => by rw [e, hp j] at hq; cases hq
  refine ⟨?_, (h b j hq).2⟩
  simp only [gp_ua, hb, if_false]
  exact (h b j hq).1
def flM (B : gB) (s : gp_S) : Prop := lst s 46 (s.1 34 26) (flN B)
def pLF (a k : Nat) : Bool := a == 46 || (a == 34 && k == 26)
def p123 (a k : Nat) : Bool := a == 41 || a == 42 || a == 43
def pSh (a k : Nat) : Bool := a == 41 || a == 42 || a == 43 || a == 47 || a == 48
def pNw (a k : Nat) : Bool := a == 41 || a == 42 || a == 43 || a == 45
def pBe (a k : Nat) : Bool := a == 41 || a == 42 || a == 43 || a == 44 || a == 45 || a == 46 || a == 47 || a == 48 || (a == 34 && (k == 26 || k == 9 || k == 10))
theorem f123 {s s' : gp_S} (hf : fr [41, 42, 43] s s') : fm p123 s s' := hf.fm (fun a k h => by
  simp only [p123, Bool.or_eq_false_iff, beq_eq_false_iff_ne] at h
  simp only [List.mem_cons, List.not_mem_nil, or_false]
  omega)
theorem sub_bool {P Q : Nat → Nat → Bool} (h : ∀ a k, P a k = true → Q a k = true) : ∀ a k, Q a k = false → P a k = false := fun a k q => by
  cases hp : P a k with
  | false => rfl
  | true => rw [h a k hp] at q; cases q
section FM
variable {G : gp_G} {N : Nat} {B : gB} {T : gT} {h : Nat} {s : gp_S}
theorem sp_addM {f : gp_S → Prop} {l : List Nat} {x : Nat} (hl : lst s 46 (s.1 34 26) l) (hc : l.length < 40) (h1 : ∀ s', fm pLF s s' → lst s' 46 (s'.1 34 26) (l ++ [x]) → f s') : cl_X10_addFault G N (nI x) f s := by
  refine sg_X10_addFault _ ?_
  rw [hl.1]
  refine ⟨vp_in_nI (by omega) (by omega), ?_⟩
  rw [nI_clamp (by omega)]
  refine h1 _ ((fm_rfl.ui 46 _ _).ui 34 26 _) ?_
  have := hl.add (x := x) (gp_ui (gp_ui s 46 l.length (nI x)) 34 26 (nI l.length + 1)) (gp_ui_ne _ _ _ (by decide))
  rw [ui_at, if_pos ⟨rfl, rfl⟩]
  rw [hl.1] at this
  exact this
def gK (B : gB) (k : Nat) : List Nat := f3N B (k / 2) ++ f2N 0 (k / 2) (min (k % 2) (pinsN (bK B (k / 2))))
theorem gK_succ (B : gB) (k : Nat) : gK B (k + 1) = if k % 2 < pinsN (bK B (k / 2)) then gK B k ++ [300 + k] else gK B k := by
  have hp2 := @pins_le (bK B (k / 2))
  unfold gK
  rcases Nat.mod_two_eq_zero_or_one k with h | h
  · rw [show (k + 1) / 2 = k / 2 from by omega, show (k + 1) % 2 = 1 from by omega, h]
    split
    · have e : f2N 0 (k / 2) 1 = f2N 0 (k / 2) 0 ++ [300 + k] := by
        show f2N 0 (k / 2) 0 ++ [300 + 2 * (k / 2) + 0] = _
        rw [show 300 + 2 * (k / 2) + 0 = 300 + k from by omega]
      rw [show min 1 (pinsN (bK B (k / 2))) = 1 from by omega, e, Nat.zero_min, List.append_assoc]
    · rw [show pinsN (bK B (k / 2)) = 0 from by omega]
      rfl
  · rw [show (k + 1) / 2 = k / 2 + 1 from by omega, show (k + 1) % 2 = 0 from by omega, h, Nat.zero_min, f3N, show f2N 0 (k / 2 + 1) 0 = [] from rfl, List.append_nil]
    split
    · rw [show pinsN (bK B (k / 2)) = 1 + 1 from by omega, show min 1 (1 + 1) = 1 from rfl, List.append_assoc]
      show f3N B (k / 2) ++ (f2N 0 (k / 2) 1 ++ [300 + 2 * (k / 2) + 1]) = _
      congr 3
      omega
    · rw [show min 1 (pinsN (bK B (k / 2))) = pinsN (bK B (k / 2)) from by omega]
theorem gK_end (B : gB) (n : Nat) : gK B (2 * n) = f3N B n := by
  unfold gK
  rw [show 2 * n / 2 = n from by omega, show 2 * n % 2 = 0 from by omega, Nat.zero_min]
  exact List.append_nil _
theorem gK_mono (B : gB) (k m : Nat) : (gK B k).length ≤ (gK B (k + m)).length := by
  induction m with
  | zero => exact Nat.le_refl _
  | succ m ih =>
    rw [show k + (m + 1) = k + m + 1 from rfl, gK_succ]
    split
    · simp; omega
    · exact ih
theorem sp_layF {f : gp_S → Prop} (hB : okB B) (hb : bM B s) (h1 : ∀ s', fm pLF s s' → flM B s' → f s') : cl_X10_layFaults G (N + 1) f s := by
  have h12 := hB.le
  have hlen := flN_len hB
  simp only [flN, List.length_append, f1N_len] at hlen
  have p3 : ∀ (m k : Nat) (s1 : gp_S), k + m = 2 * bN B → fm pLF s s1 → lst s1 46 (s1.1 34 26) (f1N 100 (bN B) ++ f1N 200 (bN B) ++ gK B k) → at_X10_layFaults_48 G (N + 1) (nI k) f s1 := by
    intro m
    induction m with
    | zero =>
      intro k s1 hk hf hl
      refine sg_X10_layFaults_48 _ ?_
      rw [(hb.fm hf).2.1, mulI (b := 2)]
      refine ⟨fun _ => h1 s1 hf ?_, fun q => absurd (nI_le (by omega) (by omega)) q⟩
      rw [show k = 2 * bN B from by omega, gK_end] at hl
      exact hl
    | succ m ih =>
      intro k s1 hk hf hl
      have hb1 := hb.fm hf
      have hk5 := hB.2.2.2.1 (k / 2) (by omega)
      have hgm := gK_mono B (k + 1) m
      rw [show k + 1 + m = 2 * bN B from by omega, gK_end] at hgm
      have hs := gK_succ B k
      refine sg_X10_layFaults_48 _ ?_
      rw [hb1.2.1, mulI (b := 2), show (2 : Int32) = nI 2 from rfl, pk_rem (by omega) (by omega) (by omega), pk_div (by omega) (by omega) (by omega), nI_clamp (by omega), hb1.2.2.1 (k / 2) (by omega), nI_1, addL (y := 300) (b := 300)]
      refine ⟨fun q => absurd q (nI_ge (by omega) (by omega)), fun _ => ⟨vp_in_nI (by omega) (by omega), sp_pinsM hk5 ?_⟩⟩
      have hp2 := @pins_le (bK B (k / 2))
      refine pk_le (pinsN (bK B (k / 2))) (k % 2) (fun q => ?_) (fun q => ?_)
      · rw [if_neg (by omega)] at hs
        exact ih (k + 1) s1 (by omega) hf (by rw [hs]; exact hl)
      · rw [if_pos q] at hs
        rw [hs] at hgm
        simp only [List.length_append, List.length_singleton] at hgm
        refine sp_addM hl (by simp only [List.length_append, f1N_len]; omega) (fun s3 hf3 hl3 => ih (k + 1) s3 (by omega) (hf.trans hf3) ?_)
        rw [hs, ← List.append_assoc]
        exact hl3
  have p2 : ∀ (c : Nat) (pre : List Nat), (c = 1 ∨ c = 2) → pre.length = (c - 1) * bN B → (∀ s1, fm pLF s s1 → lst s1 46 (s1.1 34 26) (pre ++ f1N (100 * c) (bN B)) → at_X10_layFaults_7 G (N + 1) (nI (c + 1)) f s1) → ∀ (m k : Nat) (s1 : gp_S), k + m = bN B → fm pLF s s1 → lst s1 46 (s1.1 34 26) (pre ++ f1N (100 * c) k) → at_X10_layFaults_14 G (N + 1) (nI c) (nI k) f s1 := by
    intro c pre hc hpre hnext m
    induction m with
    | zero =>
      intro k s1 hk hf hl
      refine sg_X10_layFaults_14 _ _ ?_
      rw [(hb.fm hf).2.1, nI_1 c]
      refine pk_le (bN B) k (fun _ => hnext s1 hf ?_) (fun q => absurd q (by omega))
      rw [show bN B = k from by omega]
      exact hl
    | succ m ih =>
      intro k s1 hk hf hl
      refine sg_X10_layFaults_14 _ _ ?_
      rw [(hb.fm hf).2.1, nI_1 k, mulI (y := 100) (b := 100), mulI (y := 2) (b := 2), nI_add]
      refine pk_le (bN B) k (fun q => absurd q (by omega)) (fun _ => ?_)
      refine sp_addM hl (by simp only [List.length_append, f1N_len, hpre]; rcases hc with e | e <;> subst e <;> omega) (fun s3 hf3 hl3 => ih (k + 1) s3 (by omega) (hf.trans hf3) ?_)
      rw [show f1N (100 * c) (k + 1) = f1N (100 * c) k ++ [100 * c + 2 * k] from rfl]
      rw [List.append_assoc] at hl3
      exact hl3
  refine sg_X10_layFaults (sg_X10_layFaults_7 _ (pk_le 3 1 (fun q => absurd q (by omega)) (fun _ => ?_)))
  refine p2 1 [] (Or.inl rfl) (by simp) (fun s1 hf1 hl1 => ?_) (bN B) 0 _ (by omega) (fm_rfl.ui 34 26 _) ⟨?_, fun i hi => absurd hi (Nat.not_lt_zero i)⟩
  · refine sg_X10_layFaults_7 _ (pk_le 3 2 (fun q => absurd q (by omega)) (fun _ => ?_))
    refine p2 2 (f1N 100 (bN B)) (Or.inr rfl) (by rw [f1N_len]; omega) (fun s2 hf2 hl2 => ?_) (bN B) 0 s1 (by omega) hf1 (by rw [show f1N (100 * 2) 0 = [] from rfl, List.append_nil]; exact hl1)
    refine sg_X10_layFaults_7 _ (pk_le 3 3 (fun _ => ?_) (fun q => absurd q (by omega)))
    refine p3 (2 * bN B) 0 s2 (by omega) hf2 ?_
    rw [show gK B 0 = [] from rfl, List.append_nil]
    exact hl2
  · rw [ui_at, if_pos ⟨rfl, rfl⟩]
    rfl
theorem sp_findM {f : Int32 → gp_S → Prop} {x : Int32} (hB : okB B) (hl : flM B s) (h1 : ∀ i, i < (flN B).length → x = nI ((flN B).getD i 0) → f (nI i) s) (h2 : (∀ i, i < (flN B).length → ¬ x = nI ((flN B).getD i 0)) → f (-1) s) : cl_X10_findFault G N x f s := by
  have hlen := flN_len hB
  have key : ∀ (m i : Nat) (y : Int32), i + m = (flN B).length → ((∃ j, j < i ∧ x = nI ((flN B).getD j 0) ∧ y = nI j) ∨ ((∀ j, j < i → ¬ x = nI ((flN B).getD j 0)) ∧ y = -1)) → at_X10_findFault_4 G N x y (nI i) f s := by
    intro m
    induction m with
    | zero =>
      intro i y hi hy
      refine sg_X10_findFault_4 _ _ _ ?_
      rw [hl.1]
      refine pk_le (flN B).length i (fun _ => ?_) (fun q => absurd q (by omega))
      rcases hy with ⟨j, h3, h4, rfl⟩ | ⟨h3, rfl⟩
      · exact h1 j (by omega) h4
      · exact h2 (fun j hj => h3 j (by omega))
    | succ m ih =>
      intro i y hi hy
      refine sg_X10_findFault_4 _ _ _ ?_
      rw [hl.1, nI_clamp (by omega), nI_1, hl.2 i (by omega)]
      refine pk_le (flN B).length i (fun q => absurd q (by omega)) (fun _ => ⟨vp_in_nI (by omega) (by omega), fun e => ih (i + 1) y (by omega) ?_, fun e => ih (i + 1) _ (by omega) (Or.inl ⟨i, by omega, e.symm, rfl⟩)⟩)
      rcases hy with ⟨j, h3, h4, h5⟩ | ⟨h3, h5⟩
      · exact Or.inl ⟨j, by omega, h4, h5⟩
      · refine Or.inr ⟨fun j hj => ?_, h5⟩
        by_cases ej : j = i
        · rw [ej]; exact fun q => e q.symm
        · exact h3 j (by omega)
  exact sg_X10_findFault _ (key (flN B).length 0 (-1) (by omega) (Or.inr ⟨fun j hj => absurd hj (Nat.not_lt_zero j), rfl⟩))
/-- histories of all nodes, in one array of the reference -/
def hsM (c : Nat) (B : gB) (T : gT) (h : Nat) (s : gp_S) : Prop := ∀ n, n < bN B → s.1 c n = nI (hisN B T h T.1 n)
def shM (B : gB) (T : gT) (s : gp_S) : Prop := ∀ i, i < (flN B).length → s.1 47 i = nI (bbN B T ((flN B).getD i 0)) ∧ s.1 48 i = nI (uuN B T ((flN B).getD i 0))
theorem hsM.fm {c : Nat} {B : gB} {T : gT} {h : Nat} {s s' : gp_S} {P : Nat → Nat → Bool} (hh : hsM c B T h s) (hf : fm P s s') (h1 : ∀ k, P c k = false := by intro k; rfl) : hsM c B T h s' := fun n hn => by rw [hf.i c n (h1 n)]; exact hh n hn
theorem flM.fm {B : gB} {s s' : gp_S} {P : Nat → Nat → Bool} (hh : flM B s) (hf : fm P s s') (h0 : P 34 26 = false := by rfl) (h1 : ∀ k, P 46 k = false := by intro k; rfl) : flM B s' := ⟨by rw [hf.i 34 26 h0]; exact hh.1, fun i hi => by rw [hf.i 46 i (h1 i)]; exact hh.2 i hi⟩
theorem shM.fm {B : gB} {T : gT} {s s' : gp_S} {P : Nat → Nat → Bool} (hh : shM B T s) (hf : fm P s s') (h1 : ∀ k, P 47 k = false := by intro k; rfl) (h2 : ∀ k, P 48 k = false := by intro k; rfl) : shM B T s' := fun i hi => by rw [hf.i 47 i (h1 i), hf.i 48 i (h2 i)]; exact hh i hi
theorem mrk_I {n : Nat} (hB : okB B) (hn : n < 12) : mrkH (hisN B T h T.1 n) T.1 = mrkN B T h T.1 n := mrkN_H hB hn T.1 (Nat.le_refl _)
theorem sp_shown {f : gp_S → Prop} (hB : okB B) (hT : okT T) (hb : bM B s) (ht : tM T s) (hl : flM B s) (hg : hsM 44 B T 0 s) (h1 : ∀ s', fm pSh s s' → shM B T s' → f s') : cl_X10_layShown G (N + 4) f s := by
  have h12 := hB.le
  have hlen := flN_len hB
  have key : ∀ (m i : Nat) (s1 : gp_S), i + m = (flN B).length → fm pSh s s1 → (∀ j, j < i → s1.1 47 j = nI (bbN B T ((flN B).getD j 0)) ∧ s1.1 48 j = nI (uuN B T ((flN B).getD j 0))) → at_X10_layShown_2 G (N + 4) (nI i) f s1 := by
    intro m
    induction m with
    | zero =>
      intro i s1 hi hf hj
      refine sg_X10_layShown_2 _ ?_
      rw [(hl.fm hf).1]
      exact pk_le (flN B).length i (fun _ => h1 s1 hf (fun j hj' => hj j (by omega))) (fun q => absurd q (by omega))
    | succ m ih =>
      intro i s1 hi hf hj
      have hin : vp_in (nI i) 40 := vp_in_nI (by omega) (by omega)
      refine sg_X10_layShown_2 _ ?_
      rw [(hl.fm hf).1, nI_clamp (by omega), (hl.fm hf).2 i (by omega)]
      refine pk_le (flN B).length i (fun q => absurd q (by omega)) (fun _ => ⟨hin, ?_⟩)
      generalize hfd : (flN B).getD i 0 = w
      have hw : okH B w := okH_mem.mpr (Or.inr (by rw [← hfd]; exact flN_get (by omega)))
      refine sp_allM hB hT hw (hb.fm hf) (ht.fm hf) (fun s2 hf2 hh2 => ⟨hin, hin, ?_⟩)
      have hf2' : fm pSh s s2 := hf.trans ((f123 hf2).mono (sub_bool (by intro a k; simp only [p123, pSh, Bool.or_eq_true, beq_iff_eq]; omega)))
      have inner : ∀ (d n : Nat) (s3 : gp_S), n + d = bN B → fm pSh s s3 → (∀ j, s3.1 41 j = s2.1 41 j) → (∀ j, j ≠ i → s3.1 47 j = s2.1 47 j ∧ s3.1 48 j = s2.1 48 j) → s3.1 47 i = nI (msk (badN B T w) n) → s3.1 48 i = nI (msk (unN B T w) n) → at_X10_layShown_36 G (N + 4) (nI i) (nI n) f s3 := by
        intro d
        induction d with
        | zero =>
          intro n s3 hn hf3 h41 ho h47 h48
          refine sg_X10_layShown_36 _ _ ?_
          rw [(hb.fm hf3).2.1, nI_1 i]
          refine pk_le (bN B) n (fun _ => ih (i + 1) s3 (by omega) hf3 (fun j hj' => ?_)) (fun q => absurd q (by omega))
          by_cases e : j = i
          · rw [e, hfd, h47, h48, show n = bN B from by omega]
            exact ⟨rfl, rfl⟩
          · have := hj j (by omega)
            rw [(ho j e).1, (ho j e).2, hf2.i 47, hf2.i 48]
            exact this
        | succ d ihd =>
          intro n s3 hn hf3 h41 ho h47 h48
          have hnB : n < bN B := by omega
          have hin2 : vp_in (nI n) 12 := vp_in_nI (by omega) (by omega)
          have hH := @hisN_lt31 B T w n hB hT (by omega)
          have hG := @hisN_lt31 B T 0 n hB hT (by omega)
          have e41 : s3.1 41 n = nI (hisN B T w T.1 n) := by rw [h41 n]; exact hh2 n hnB
          have e44 : s3.1 44 n = nI (hisN B T 0 T.1 n) := (hg.fm hf3) n hnB
          refine sg_X10_layShown_36 _ _ ?_
          rw [(hb.fm hf3).2.1, nI_1 n, nI_clamp (show i < 2 ^ 31 by omega), nI_clamp (show n < 2 ^ 31 by omega), e41, h47, bI_1shl (by omega)]
          refine pk_le (bN B) n (fun q => absurd q (by omega)) (fun _ => ⟨hin, hin2, ?_⟩)
          refine sp_markM hT (ht.fm hf3) (by omega) ⟨hin2, ?_⟩
          rw [e44]
          refine sp_markM hT (ht.fm hf3) (by omega) ?_
          rw [e41, e44, h48, bI_or, bI_or, mrk_I hB (by omega), mrk_I hB (by omega), show (0 : Int32) = nI 0 from rfl, bI_or, bI_or, Nat.or_zero, Nat.or_zero]
          have hm1 := @mrkN_lt B T w n T.1
          have hm2 := @mrkN_lt B T 0 n T.1
          have go : ∀ (a b : Nat), a = msk (badN B T w) (n + 1) → b = msk (unN B T w) (n + 1) → at_X10_layShown_36 G (N + 4) (nI i) (nI (n + 1)) f (gp_ui (gp_ui s3 47 i (nI a)) 48 i (nI b)) := by
            intro a b ha hb'
            subst ha hb'
            refine ihd (n + 1) _ (by omega) ((hf3.ui 47 _ _).ui 48 _ _) (fun j => ?_) (fun j hj' => ?_) ?_ ?_
            · rw [ui_at, if_neg (by omega), ui_at, if_neg (by omega)]; exact h41 j
            · simp only [ui_at]
              rw [if_neg (by omega), if_neg (by omega), if_neg (by omega), if_neg (by omega)]
              exact ho j hj'
            · simp [ui_at]
            · simp [ui_at]
          have hbp : ∀ c, badN B T w n = c → msk (badN B T w) (n + 1) = if c then msk (badN B T w) n ||| 2 ^ n else msk (badN B T w) n := by intro c hc; rw [msk, hc]
          have hup : ∀ c, unN B T w n = c → msk (unN B T w) (n + 1) = if c then msk (unN B T w) n ||| 2 ^ n else msk (unN B T w) n := by intro c hc; rw [msk, hc]
          refine pk_eq (mrkN B T w T.1 n) (mrkN B T 0 T.1 n) (fun e => ⟨hin, hin, hin2, hin2, pk_eq (hisN B T w T.1 n) (hisN B T 0 T.1 n) (fun e2 => ⟨hin, go _ _ (hbp false (by simp [badN, e])).symm (hup false (by simp [unN, e2])).symm⟩) (fun e2 => ⟨hin, go _ _ (hbp false (by simp [badN, e])).symm (hup true (by simp [unN, e2])).symm⟩)⟩) (fun e => ⟨hin, hin, hin2, hin2, pk_eq (hisN B T w T.1 n) (hisN B T 0 T.1 n) (fun e2 => ⟨hin, go _ _ (hbp true (by simp [badN, e])).symm (hup false (by simp [unN, e2])).symm⟩) (fun e2 => ⟨hin, go _ _ (hbp true (by simp [badN, e])).symm (hup true (by simp [unN, e2])).symm⟩)⟩)
      refine inner (bN B) 0 _ (by omega) ((hf2'.ui 47 _ _).ui 48 _ _) (fun j => ?_) (fun j hj' => ?_) ?_ ?_
      · rw [ui_at, if_neg (by omega), ui_at, if_neg (by omega)]
      · simp only [ui_at]
        rw [if_neg (by omega), if_neg (by omega), if_neg (by omega), if_neg (by omega)]
        exact ⟨rfl, rfl⟩
      · simp [ui_at]; rfl
      · simp [ui_at]; rfl
  exact sg_X10_layShown (key (flN B).length 0 s (by omega) fm_rfl (fun j hj => absurd hj (Nat.not_lt_zero j)))
theorem sp_layN {f : gp_S → Prop} (hB : okB B) (hT : okT T) (hh : okH B h) (hb : bM B s) (ht : tM T s) (h8 : s.1 34 8 = nI h) (h1 : ∀ s', fm pNw s s' → hsM 45 B T h s' → f s') : cl_X10_layNow G (N + 4) f s := by
  have h12 := hB.le
  refine sg_X10_layNow ?_
  rw [h8]
  refine sp_allM hB hT hh hb ht (fun s2 hf2 hh2 => ?_)
  have hf2' : fm pNw s s2 := (f123 hf2).mono (sub_bool (by intro a k; simp only [p123, pNw, Bool.or_eq_true, beq_iff_eq]; omega))
  have key : ∀ (m n : Nat) (s1 : gp_S), n + m = bN B → fm pNw s s1 → (∀ j, s1.1 41 j = s2.1 41 j) → (∀ j, j < n → s1.1 45 j = nI (hisN B T h T.1 j)) → at_X10_layNow_10 G (N + 4) (nI n) f s1 := by
    intro m
    induction m with
    | zero =>
      intro n s1 hn hf h41 hj
      refine sg_X10_layNow_10 _ ?_
      rw [(hb.fm hf).2.1]
      exact pk_le (bN B) n (fun _ => h1 s1 hf (fun j hj' => hj j (by omega))) (fun q => absurd q (by omega))
    | succ m ih =>
      intro n s1 hn hf h41 hj
      have hin2 : vp_in (nI n) 12 := vp_in_nI (by omega) (by omega)
      refine sg_X10_layNow_10 _ ?_
      rw [(hb.fm hf).2.1, nI_clamp (by omega), nI_1]
      refine pk_le (bN B) n (fun q => absurd q (by omega)) (fun _ => ⟨hin2, hin2, ih (n + 1) _ (by omega) (hf.ui 45 _ _) (fun j => ?_) (fun j hj' => ?_)⟩)
      · rw [ui_at, if_neg (by omega)]; exact h41 j
      · rw [ui_at]
        by_cases e : j = n
        · rw [if_pos ⟨rfl, e⟩, h41 n, e]; exact hh2 n (by omega)
        · rw [if_neg (by omega)]; exact hj j (by omega)
  exact key (bN B) 0 s2 (by omega) hf2' (fun _ => rfl) (fun j hj => absurd hj (Nat.not_lt_zero j))
theorem sp_begins {f : gp_S → Prop} (hB : okB B) (hT : okT T) (hh : okH B h) (hb : bM B s) (ht : tM T s) (h8 : s.1 34 8 = nI h) (h1 : ∀ s', fm pBe s s' → flM B s' → hsM 44 B T 0 s' → hsM 45 B T h s' → shM B T s' → s'.1 34 9 = nI 0 → s'.1 34 10 = nI 0 → f s') : cl_X10_begins G (N + 5) f s := by
  have h12 := hB.le
  have hf0 : fm pBe s (gp_ui (gp_ui s 34 9 0) 34 10 0) := (fm_rfl.ui 34 9 _).ui 34 10 _
  refine sg_X10_begins (sp_layF hB (hb.fm hf0) (fun s1 hf1 hl1 => ?_))
  have hf1' : fm pBe s s1 := hf0.trans (hf1.mono (sub_bool (by intro a k; simp only [pLF, pBe, Bool.or_eq_true, beq_iff_eq, Bool.and_eq_true]; omega)))
  refine sp_allM (h := 0) hB hT (Or.inl rfl) (hb.fm hf1') (ht.fm hf1') (fun s2 hf2 hh2 => ?_)
  have hf12 : fm p123 s1 s2 := f123 hf2
  have hf2' : fm pBe s s2 := hf1'.trans (hf12.mono (sub_bool (by intro a k; simp only [p123, pBe, Bool.or_eq_true, beq_iff_eq, Bool.and_eq_true]; omega)))
  have hl2 : flM B s2 := hl1.fm hf12
  have e9 : s2.1 34 9 = nI 0 := by rw [hf12.i 34 9, hf1.i 34 9]; simp [ui_at]; rfl
  have e10 : s2.1 34 10 = nI 0 := by rw [hf12.i 34 10, hf1.i 34 10]; simp [ui_at]; rfl
  have key : ∀ (m n : Nat) (s3 : gp_S), n + m = bN B → fm (fun a _ => a == 44) s2 s3 → (∀ j, j < n → s3.1 44 j = nI (hisN B T 0 T.1 j)) → at_X10_begins_21 G (N + 5) (nI n) f s3 := by
    intro m
    induction m with
    | zero =>
      intro n s3 hn hf3 hj
      have hf3' : fm pBe s s3 := hf2'.trans (hf3.mono (sub_bool (by intro a k; simp only [pBe, Bool.or_eq_true, beq_iff_eq, Bool.and_eq_true]; omega)))
      have hg3 : hsM 44 B T 0 s3 := fun j hj' => hj j (by omega)
      refine sg_X10_begins_21 _ ?_
      rw [(hb.fm hf3').2.1]
      refine pk_le (bN B) n (fun _ => ?_) (fun q => absurd q (by omega))
      refine sp_shown hB hT (hb.fm hf3') (ht.fm hf3') (hl2.fm hf3) hg3 (fun s4 hf4 hs4 => ?_)
      have hf4' : fm pBe s s4 := hf3'.trans (hf4.mono (sub_bool (by intro a k; simp only [pSh, pBe, Bool.or_eq_true, beq_iff_eq, Bool.and_eq_true]; omega)))
      refine sp_layN hB hT hh (hb.fm hf4') (ht.fm hf4') ((hf4'.i 34 8).trans h8) (fun s5 hf5 hn5 => ?_)
      refine h1 s5 (hf4'.trans (hf5.mono (sub_bool (by intro a k; simp only [pNw, pBe, Bool.or_eq_true, beq_iff_eq, Bool.and_eq_true]; omega)))) (((hl2.fm hf3).fm hf4).fm hf5) ((hg3.fm hf4).fm hf5) hn5 (hs4.fm hf5) ?_ ?_
      · rw [hf5.i 34 9, hf4.i 34 9, hf3.i 34 9]; exact e9
      · rw [hf5.i 34 10, hf4.i 34 10, hf3.i 34 10]; exact e10
    | succ m ih =>
      intro n s3 hn hf3 hj
      have hf3' : fm pBe s s3 := hf2'.trans (hf3.mono (sub_bool (by intro a k; simp only [pBe, Bool.or_eq_true, beq_iff_eq, Bool.and_eq_true]; omega)))
      have hin2 : vp_in (nI n) 12 := vp_in_nI (by omega) (by omega)
      refine sg_X10_begins_21 _ ?_
      rw [(hb.fm hf3').2.1, nI_clamp (by omega), nI_1]
      refine pk_le (bN B) n (fun q => absurd q (by omega)) (fun _ => ⟨hin2, hin2, ih (n + 1) _ (by omega) (hf3.ui 44 _ _) (fun j hj' => ?_)⟩)
      rw [ui_at]
      by_cases e : j = n
      · rw [if_pos ⟨rfl, e⟩, hf3.i 41 n, e]; exact hh2 n (by omega)
      · rw [if_neg (by omega)]; exact hj j (by omega)
  exact key (bN B) 0 s2 (by omega) fm_rfl (fun j hj => absurd hj (Nat.not_lt_zero j))
theorem sp_hasM {f : Int32 → gp_S → Prop} {a t : Nat} (ha : a < 2 ^ 31) (ht : t < 32) (h1 : f (nI (bitN a t)) s) : cl_X10_has G N (nI a) (nI t) f s := by
  refine sg_X10_has _ _ ?_
  rw [bI_bit ha ht]
  unfold bitN at h1
  cases hb : a.testBit t with
  | true => rw [hb] at h1; exact ⟨fun q => absurd rfl q, fun _ => h1⟩
  | false => rw [hb] at h1; exact ⟨fun _ => h1, fun q => absurd q (by decide)⟩
theorem sp_firstM {f : Int32 → gp_S → Prop} {n : Nat} (hB : okB B) (hT : okT T) (ht : tM T s) (hg : hsM 44 B T 0 s) (hw : hsM 45 B T h s) (hn : n < bN B) (h1 : f (figI (fiN B T h n)) s) : cl_X10_firstOf G (N + 1) (nI n) f s := by
  have h12 := hB.le
  have hT1 := hT.1
  have hin2 : vp_in (nI n) 12 := vp_in_nI (by omega) (by omega)
  have hlt := @ofN_lt B T h hB n (by omega)
  have hlt2 : ofN B T h n < 2 ^ 31 := Nat.lt_of_lt_of_le hlt (Nat.pow_le_pow_right (by omega) (by omega))
  refine sg_X10_firstOf _ ⟨hin2, hin2, ?_⟩
  rw [nI_clamp (by omega), hw n hn, hg n hn, fb_xorI, ht.1]
  have key : ∀ (t d : Nat), t + d = T.1 → at_X10_firstOf_24 G (N + 1) (nI n) (nI (ofN B T h n)) (figI (fsN (ofN B T h n) d t)) (nI t - 1) f s := by
    intro t
    induction t with
    | zero =>
      intro d hd
      refine sg_X10_firstOf_24 _ _ _ _ ⟨fun _ => ?_, fun q => absurd (by decide) q⟩
      unfold fiN at h1
      rwa [show T.1 = d from by omega] at h1
    | succ t ih =>
      intro d hd
      refine sg_X10_firstOf_24 _ _ _ _ ?_
      rw [nI_pred]
      have hi := ih (d + 1) (by omega)
      unfold fsN at hi
      refine ⟨fun q => absurd q (nI_pos (by omega)), fun _ => sp_hasM hlt2 (by omega) ?_⟩
      have e : nI t + (-1) = nI t - 1 := by rw [Int32.sub_eq_add_neg]
      rw [e]
      unfold bitN
      cases hb : (ofN B T h n).testBit t with
      | true =>
        rw [hb] at hi
        exact ⟨fun q => absurd q (by decide), fun _ => hi⟩
      | false =>
        rw [hb] at hi
        exact ⟨fun _ => hi, fun q => absurd rfl q⟩
  exact key T.1 0 (by omega)
end FM
