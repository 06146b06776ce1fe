def nfN (B : gB) : Nat := (flN B).length
def bbF (B : gB) (T : gT) (i : Nat) : Nat := bbN B T ((flN B).getD i 0)
def uuF (B : gB) (T : gT) (i : Nat) : Nat := uuN B T ((flN B).getD i 0)
def shX (B : gB) (T : gT) (s : gp_S) : Prop := ∀ i, i < nfN B → s.1 22 i = nI (bbF B T i) ∧ s.1 23 i = nI (uuF B T i)
def vvX (s : gp_S) : Prop := ∃ v, arr s 12 12 v ∧ okV v
theorem bbF_lt {B : gB} {T : gT} (i : Nat) : bbF B T i < 2 ^ bN B := msk_lt _ _
theorem bbF_lt12 {B : gB} {T : gT} (hB : okB B) (i : Nat) : bbF B T i < 2 ^ 12 := bbN_lt hB
def pSF (a k : Nat) : Bool := a == 11 || a == 12 || a == 13 || a == 15 || a == 16 || a == 18 || a == 19 || a == 20 || a == 21 || a == 22 || a == 23 || a == 27 || (a == 26 && k == 1)
def pSN (a k : Nat) : Bool := a == 11 || a == 12 || a == 13 || a == 18 || a == 19 || a == 32 || a == 25 || (a == 24 && k == 1) || a == 28 || a == 29 || a == 30 || (a == 26 && (k == 5 || k == 6))
theorem tX.fm {T : gT} {s s' : gp_S} {P : Nat → Nat → Bool} (hb : tX T s) (hf : fm P s s') (h2 : P 9 1 = false := by rfl) (h4 : ∀ k, P 10 k = false := by intro k; rfl) : tX T s' :=
  ⟨by rw [hf.i 9 1 h2]; exact hb.1, fun n hn => by rw [hf.i 10 n (h4 n)]; exact hb.2 n hn⟩
theorem hsX.fm {c d : Nat} {B : gB} {T : gT} {h : Nat} {s s' : gp_S} {P : Nat → Nat → Bool} (hh : hsX c d B T h s) (hf : fm P s s') (h1 : ∀ k, P c k = false := by intro k; rfl) (h2 : ∀ k, P d k = false := by intro k; rfl) : hsX c d B T h s' :=
  ⟨fun n hn => by rw [hf.i c n (h1 n), hf.i d n (h2 n)]; exact hh.1 n hn, fun n hn hn2 => by rw [hf.i c n (h1 n), hf.i d n (h2 n)]; exact hh.2 n hn hn2⟩
theorem lst.fm {a : Nat} {l : List Nat} {s s' : gp_S} {c : Int32} {P : Nat → Nat → Bool} (hl : lst s a c l) (hf : fm P s s') (h1 : ∀ k, P a k = false := by intro k; rfl) : lst s' a c l := ⟨hl.1, fun i hi => by rw [hf.i a i (h1 i)]; exact hl.2 i hi⟩
theorem vvX.fm {s s' : gp_S} {P : Nat → Nat → Bool} (hv : vvX s) (hf : fm P s s') (h1 : ∀ k, P 12 k = false := by intro k; rfl) : vvX s' := by
  obtain ⟨v, h2, h3⟩ := hv
  exact ⟨v, fun k hk => by rw [hf.i 12 k (h1 k)]; exact h2 k hk, h3⟩
theorem shX.fm {B : gB} {T : gT} {s s' : gp_S} {P : Nat → Nat → Bool} (hh : shX B T s) (hf : fm P s s') (h1 : ∀ k, P 22 k = false := by intro k; rfl) (h2 : ∀ k, P 23 k = false := by intro k; rfl) : shX B T s' := fun i hi => by rw [hf.i 22 i (h1 i), hf.i 23 i (h2 i)]; exact hh i hi
theorem sbX.fm {bb : Nat → Nat} {nf : Nat} {s s' : gp_S} {P : Nat → Nat → Bool} (hh : sbX bb nf s) (hf : fm P s s') (h1 : P 26 1 = false := by rfl) (h2 : ∀ k, P 27 k = false := by intro k; rfl) : sbX bb nf s' := ⟨fun n hn => by rw [hf.j 27 n (h2 n)]; exact hh.1 n hn, by rw [hf.j 26 1 h1]; exact hh.2⟩
theorem prX.fm {L F : Nat} {s s' : gp_S} {P : Nat → Nat → Bool} (hh : prX L F s) (hf : fm P s s') (h1 : P 24 1 = false := by rfl) (h2 : ∀ k, P 25 k = false := by intro k; rfl) : prX L F s' := ⟨fun n hn => by rw [hf.i 25 n (h2 n)]; exact hh.1 n hn, by rw [hf.i 24 1 h1]; exact hh.2⟩
theorem suX.fm {bb : Nat → Nat} {nf nn L F : Nat} {s s' : gp_S} {P : Nat → Nat → Bool} (hh : suX bb nf nn L F s) (hf : fm P s s') (h5 : P 26 5 = false := by rfl) (h6 : P 26 6 = false := by rfl) (h1 : ∀ k, P 28 k = false := by intro k; rfl) (h2 : ∀ k, P 29 k = false := by intro k; rfl) (h3 : ∀ k, P 30 k = false := by intro k; rfl) : suX bb nf nn L F s' :=
  ⟨⟨by rw [hf.i 26 5 h5]; exact hh.1.1, fun i hi hp => by rw [hf.i 28 _ (h1 _)]; exact hh.1.2 i hi hp⟩, by rw [hf.i 26 6 h6]; exact hh.2.1, fun i hi hp => by rw [hf.i 29 i (h2 i), hf.i 30 i (h3 i)]; exact hh.2.2 i hi hp⟩
section SA
variable {G : gp_G} {N : Nat} {B : gB} {T : gT} {h : Nat} {s : gp_S}
theorem sp_simF {f : gp_S → Prop} (hB : okB B) (hT : okT T) (hb : bX B s) (ht : tX T s) (hv : vvX s) (h1 : ∀ s', fm pSF s s' → hsX 15 16 B T 0 s' → lst s' 21 (s'.1 20 3) (flN B) → shX B T s' → sbX (bbF B T) (nfN B) s' → vvX s' → f s') : cl_X9_simulateFaults G (N + 5) f s := by
  obtain ⟨v, hv1, hv2⟩ := hv
  have hlen : nfN B ≤ 40 := flN_len hB
  refine sg_X9_simulateFaults (sp_runX14 (h := 0) hB hT (by omega) hb ht hv1 hv2 (fun s1 w hf1 _ hw1 hw2 hn1 hn2 => ?_))
  have hf1' : fm pSF s s1 := hf1.fm (fun a k hq => by simp only [pSF, Bool.or_eq_false_iff, beq_eq_false_iff_ne] at hq; simp only [List.mem_cons, List.not_mem_nil, or_false]; omega)
  have hg1 : hsX 15 16 B T 0 s1 := ⟨hn1, hn2⟩
  refine sp_listX hB (hb.fm hf1') (fun s2 hf2 hl2 => ?_)
  have hf2' : fm pSF s s2 := hf1'.trans (hf2.fm (fun a k hq => by simp only [pSF, Bool.or_eq_false_iff, beq_eq_false_iff_ne] at hq; simp only [List.mem_cons, List.not_mem_nil, or_false]; omega))
  have key : ∀ (m i : Nat) (s3 : gp_S), i + m = nfN B → fm pSF s s3 → hsX 15 16 B T 0 s3 → lst s3 21 (s3.1 20 3) (flN B) → vvX s3 → (∀ j, j < i → s3.1 22 j = nI (bbF B T j) ∧ s3.1 23 j = nI (uuF B T j)) → at_X9_simulateFaults_25 G (N + 5) (nI i) f s3 := by
    intro m
    induction m with
    | zero =>
      intro i s3 hi hf hg hl hv hj
      refine sg_X9_simulateFaults_25 _ ?_
      rw [hl.1]
      refine pk_le (flN B).length i (fun _ => ?_) (fun q => absurd q (by unfold nfN at hi; omega)) rfl rfl (by unfold nfN at hlen; omega) (by omega)
      refine sp_slearn (nf := nfN B) (bb := bbF B T) hlen (fun i _ => bbF_lt12 hB i) hl.1 (fun j hj' => (hj j (by omega)).1) (fun s4 hf4 hs4 => ?_)
      have hf4' : fm pSF s s4 := hf.trans (hf4.mono (sub_bool (by intro a k; simp only [pSF, Bool.or_eq_true, beq_iff_eq, Bool.and_eq_true]; omega)))
      refine h1 s4 hf4' (hg.fm hf4) ?_ (fun j hj' => ?_) hs4 (hv.fm hf4)
      · rw [hf4.i 20 3]; exact hl.fm hf4
      · rw [hf4.i 22 j, hf4.i 23 j]; exact hj j (by omega)
    | succ m ih =>
      intro i s3 hi hf hg hl hv hj
      have hin : vp_in (nI i) 40 := vp_in_nI (by omega) (by omega)
      have hil : i < (flN B).length := by unfold nfN at hi; omega
      obtain ⟨v3, hv3, hok3⟩ := hv
      refine sg_X9_simulateFaults_25 _ ?_
      rw [hl.1, nI_clamp (by omega), nI_1, hl.2 i hil]
      refine pk_le (flN B).length i (fun q => absurd q (by omega)) (fun _ => ⟨hin, ?_⟩) rfl rfl (by unfold nfN at hlen; omega) (by omega)
      refine sp_runX17 (h := (flN B).getD i 0) hB hT (flN_lt hB hil) (hb.fm hf) (ht.fm hf) hv3 hok3 (fun s4 w4 hf4 _ hw4 hok4 hn4 hn4' => ?_)
      have hf4' : fm pSF s s4 := hf.trans (hf4.fm (fun a k hq => by simp only [pSF, Bool.or_eq_false_iff, beq_eq_false_iff_ne] at hq; simp only [List.mem_cons, List.not_mem_nil, or_false]; omega))
      have hg4 : hsX 15 16 B T 0 s4 := hg.fr hf4
      have hn4x : hsX 18 19 B T ((flN B).getD i 0) s4 := ⟨hn4, hn4'⟩
      refine sp_badX hB hg4 hn4x ⟨hin, ?_⟩
      have hfa : fr [22] s4 (gp_ui s4 22 i (nI (bbN B T ((flN B).getD i 0)))) := fr_rfl.ui (a := 22) _ _
      refine sp_unX hB hT (hg4.fr hfa) (hn4x.fr hfa) ⟨hin, ?_⟩
      have hfb : fm (fun a _ => a == 22 || a == 23) s4 (gp_ui (gp_ui s4 22 i (nI (bbN B T ((flN B).getD i 0)))) 23 i (nI (uuN B T ((flN B).getD i 0)))) := (fm_rfl.ui 22 _ _).ui 23 _ _
      refine ih (i + 1) _ (by omega) ((hf4'.ui 22 _ _).ui 23 _ _) (hg4.fm hfb) ?_ ⟨w4, arr.ne (arr.ne hw4 _ _) _ _, hok4⟩ (fun j hj' => ?_)
      · rw [hfb.i 20 3, hf4.i 20]
        exact (show lst s4 21 (s3.1 20 3) (flN B) from ⟨hl.1, fun k hk => by rw [hf4.i 21]; exact hl.2 k hk⟩).fm hfb
      · simp only [ui_at]
        by_cases e : j = i
        · subst e
          simp [bbF, uuF]
        · have := hj j (by omega)
          simp only [e, and_false, if_false]
          rw [hf4.i 22, hf4.i 23]
          exact this
  refine key (nfN B) 0 s2 (by omega) hf2' (hg1.fr hf2) hl2 ⟨w, hw1.fr hf2, hw2⟩ (fun j hj => absurd hj (Nat.not_lt_zero j))
theorem sp_forgP {f : gp_S → Prop} (hB : okB B) (hs : sbX (bbF B T) (nfN B) s) (h1 : ∀ s', fm pSN s s' → fm (fun a k => a == 25 || (a == 24 && k == 1) || a == 28 || a == 29 || a == 30 || (a == 26 && (k == 5 || k == 6))) s s' → prX 0 0 s' → suX (bbF B T) (nfN B) (bN B) 0 0 s' → f s') : cl_X9_forgetProbes G (N + 16) f s := by
  have hlen : nfN B ≤ 40 := flN_len hB
  refine sg_X9_forgetProbes (sg_X4_clear (sp_fill_25 (fun s1 hf1 hv1 => ?_)))
  have hf1' : fm (fun a k => a == 25 || (a == 24 && k == 1)) s s1 := fm.fr (a := 25) fm_rfl hf1
  have hf2 : fm (fun a k => a == 25 || (a == 24 && k == 1)) s (gp_ui s1 24 1 0) := hf1'.ui 24 1 _
  refine sp_choose (L := 0) (F := 0) hlen hB.le ⟨Nat.two_pow_pos _, fun j hj => by rw [Nat.zero_testBit] at hj; cases hj⟩ (fun i _ => bbF_lt i) (hs.fm hf2) ⟨fun n hn => ?_, ?_⟩ (fun s3 hf3 hs3 => ?_)
  · rw [ui_at, if_neg (by omega), hv1 n hn]; simp
  · rw [ui_at, if_pos ⟨rfl, rfl⟩]
    rw [show fb_ct (fun n => (0 : Nat).testBit n) 12 = 0 from fb_ct_zero.mpr (fun k _ => by simp)]
    rfl
  · have e1 : fm (fun a k => a == 25 || (a == 24 && k == 1) || a == 28 || a == 29 || a == 30 || (a == 26 && (k == 5 || k == 6))) s s3 := (hf2.mono (sub_bool (by intro a k; simp only [Bool.or_eq_true, beq_iff_eq, Bool.and_eq_true]; omega))).trans (hf3.mono (sub_bool (by intro a k; simp only [pCh, Bool.or_eq_true, beq_iff_eq, Bool.and_eq_true]; omega)))
    refine h1 s3 (e1.mono (sub_bool (by intro a k; simp only [pSN, Bool.or_eq_true, beq_iff_eq, Bool.and_eq_true]; omega))) e1 ⟨fun n hn => ?_, ?_⟩ hs3
    · rw [hf3.i 25 n, ui_at, if_neg (by omega), hv1 n hn]; simp
    · rw [hf3.i 24 1, ui_at, if_pos ⟨rfl, rfl⟩]
      rw [show fb_ct (fun n => (0 : Nat).testBit n) 12 = 0 from fb_ct_zero.mpr (fun k _ => by simp)]
      rfl
theorem sp_simN {f : gp_S → Prop} (hB : okB B) (hT : okT T) (hh : okH B h) (hb : bX B s) (ht : tX T s) (hv : vvX s) (h11 : s.1 0 11 = nI h) (hg : hsX 15 16 B T 0 s) (hs : sbX (bbF B T) (nfN B) s) (h1 : ∀ s', fm pSN s s' → hsX 18 19 B T h s' → fsX (fiN B T h) (bN B) s' → vvX s' → prX 0 0 s' → suX (bbF B T) (nfN B) (bN B) 0 0 s' → f s') : cl_X9_simulateNow G (N + 17) f s := by
  obtain ⟨v, hv1, hv2⟩ := hv
  refine sg_X9_simulateNow ?_
  rw [h11]
  refine sp_runX17 (N := N + 12) hB hT (okH_lt hB hh) hb ht hv1 hv2 (fun s1 w hf1 _ hw1 hw2 hn1 hn2 => ?_)
  have hf1' : fm pSN s s1 := hf1.fm (fun a k hq => by simp only [pSN, Bool.or_eq_false_iff, beq_eq_false_iff_ne] at hq; simp only [List.mem_cons, List.not_mem_nil, or_false]; omega)
  have hx1 : hsX 18 19 B T h s1 := ⟨hn1, hn2⟩
  refine sp_wlearn (N := N + 15) hB hT (hg.fr hf1) hx1 (fun s2 hf2 h32 => ?_)
  have hf2' : fm pSN s s2 := hf1'.trans (hf2.fm (fun a k hq => by simp only [pSN, Bool.or_eq_false_iff, beq_eq_false_iff_ne] at hq; simp only [List.mem_cons, List.not_mem_nil, or_false]; omega))
  refine sp_forgP hB (hs.fm hf2') (fun s3 hf3 hf3' hp3 hs3 => ?_)
  refine h1 s3 (hf2'.trans hf3) ((hx1.fr hf2).fm hf3') ?_ ?_ hp3 hs3
  · exact (show fsX (fiN B T h) (bN B) s2 from h32).fm hf3'
  · exact vvX.fm ⟨w, hw1.fr hf2, hw2⟩ hf3'
end SA
