def prX (L F : Nat) (s : gp_S) : Prop := (∀ n, n < 12 → s.1 25 n = if L.testBit n then nI (bitN F n) else -1) ∧ s.1 24 1 = nI (fb_ct (fun n => L.testBit n) 12)
/-- what the class keeps of suspects -/
def suX (bb : Nat → Nat) (nf nn L F : Nat) (s : gp_S) : Prop := mbX (fit bb L F) nf s ∧ s.1 26 6 = figI (nxN bb nf nn L F) ∧ ∀ i, i < nf → fit bb L F i = true → s.1 29 i = nI (restN bb nf nn L F i) ∧ s.1 30 i = nI (stepsN bb nf nn L F i)
def pCh (a k : Nat) : Bool := a == 28 || a == 29 || a == 30 || (a == 26 && (k == 5 || k == 6))
theorem msk_id {L k : Nat} (h : L < 2 ^ k) : msk (fun j => L.testBit j) k = L := by
  apply Nat.eq_of_testBit_eq
  intro j
  rw [msk_bit]
  by_cases hj : j < k
  · simp [hj]
  · simp only [hj, decide_false, Bool.false_and]
    exact (Nat.testBit_lt_two_pow (Nat.lt_of_lt_of_le h (Nat.pow_le_pow_right (by omega) (by omega)))).symm
theorem msk_or {p q : Nat → Bool} {n : Nat} : msk p n ||| msk q n = msk (fun i => p i || q i) n := by
  apply Nat.eq_of_testBit_eq
  intro j
  rw [Nat.testBit_or, msk_bit, msk_bit, msk_bit]
  cases decide (j < n) <;> cases p j <;> cases q j <;> rfl
section UX2
variable {G : gp_G} {N nf nn L F : Nat} {bb : Nat → Nat} {s : gp_S}
theorem sp_choose {f : gp_S → Prop} (hnf : nf ≤ 40) (hnn : nn ≤ 12) (hL : okL nn L F) (hbb : ∀ i, i < nf → bb i < 2 ^ nn) (hs : sbX bb nf s) (hp : prX L F s) (h : ∀ s', fm pCh s s' → suX bb nf nn L F s' → f s') : cl_X7_choose_o24 G (N + 15) f s := by
  have hL12 : L < 2 ^ 12 := Nat.lt_of_lt_of_le hL.1 (Nat.pow_le_pow_right (by omega) (by omega))
  have hF12 : F < 2 ^ 12 := by
    apply Nat.lt_pow_two_of_testBit
    intro i hi
    cases hf : F.testBit i with
    | false => rfl
    | true =>
      have := hL.2 i hf
      rw [Nat.testBit_lt_two_pow (Nat.lt_of_lt_of_le hL12 (Nat.pow_le_pow_right (by omega) hi))] at this
      cases this
  have hok : ∀ k, okL 12 (msk (fun j => L.testBit j) k) (msk (fun j => F.testBit j) k) ∨ 12 < k := by
    intro k
    by_cases hk : k ≤ 12
    · refine Or.inl ⟨Nat.lt_of_lt_of_le (msk_lt _ _) (Nat.pow_le_pow_right (by omega) hk), fun j hj => ?_⟩
      rw [msk_bit] at hj ⊢
      rw [Bool.and_eq_true] at hj ⊢
      exact ⟨hj.1, hL.2 j hj.2⟩
    · exact Or.inr (by omega)
  have fin : ∀ s1, s1 = s → cl_X7_listMembers G (N + 14) (setL bb nf L F) (fun s1 => cl_X7_nextOf G (N + 14) (setL bb nf L F) (nI L) (fun r3 s2 => cl_X7_goOn G (N + 14) (setL bb nf L F) (nI L) 0 (fun s4 => f s4) (gp_ui s2 26 6 r3)) s1) s1 := by
    intro s1 hs1
    subst hs1
    unfold setL
    refine sp_members hnf (fun s2 hf2 hm2 => ?_)
    have hs2 : sbX bb nf s2 := ⟨fun n hn => by rw [hf2.j 27 n]; exact hs.1 n hn, by rw [hf2.j 26 1]; exact hs.2⟩
    refine sp_nextX (N := N + 13) hnf hnn hL hbb hs2 ?_
    have hu := unL_le nn L
    rw [show N + 14 = (N + (12 - unL nn L)) + unL nn L + 2 from by omega]
    refine sp_goOn hnf hnn hbb (unL nn L) L F 0 _ _ rfl hL (by omega) hs2 (fun s3 hf3 h1 h2 => h s3 ?_ ⟨⟨?_, fun i hi hpi => ?_⟩, ?_, fun i hi hpi => ?_⟩)
    · have e1 : fm pCh s1 s2 := hf2.mono (sub_bool (by intro a k; simp only [pCh, Bool.or_eq_true, beq_iff_eq, Bool.and_eq_true]; omega))
      refine (e1.ui 26 6 _).trans (hf3.fm (fun a k hq => ?_))
      simp only [pCh, Bool.or_eq_false_iff, beq_eq_false_iff_ne] at hq
      simp only [List.mem_cons, List.not_mem_nil, or_false]
      omega
    · rw [hf3.i 26, ui_at, if_neg (by omega)]; exact hm2.1
    · rw [hf3.i 28, ui_at, if_neg (by omega)]; exact hm2.2 i hi hpi
    · rw [hf3.i 26, ui_at, if_pos ⟨rfl, rfl⟩]
    · have := h1 i hi hpi
      rwa [Nat.zero_add] at this
  have key : ∀ (m n : Nat), n + m = 12 → at_X7_choose_o24_11 G (N + 15) (setL bb nf (msk (fun j => L.testBit j) n) (msk (fun j => F.testBit j) n)) (nI (msk (fun j => L.testBit j) n)) (nI n) f s := by
    intro m
    induction m with
    | zero =>
      intro n hn
      refine sg_X7_choose_o24_11 _ _ _ (pk_le 12 n (fun _ => ?_) (fun q => absurd q (by omega)))
      rw [show n = 12 from by omega, msk_id hL12, msk_id hF12]
      exact fin s rfl
    | succ m ih =>
      intro n hn
      have hokn : okL 12 (msk (fun j => L.testBit j) n) (msk (fun j => F.testBit j) n) := by rcases hok n with q | q; exact q; omega
      have hbn : (msk (fun j => L.testBit j) n).testBit n = false := by rw [msk_bit]; simp
      have hin : vp_in (nI n) 12 := vp_in_nI (by omega) (by omega)
      refine sg_X7_choose_o24_11 _ _ _ (pk_le 12 n (fun q => absurd q (by omega)) (fun _ => ⟨hin, ?_⟩))
      have hi := ih (n + 1) (by omega)
      rw [msk, msk] at hi
      rw [nI_clamp (by omega), hp.1 n (by omega), nI_1, bI_1shl (by omega), bI_or]
      cases hbL : L.testBit n with
      | false =>
        have hbF := hL.F hbL
        simp only [hbL, hbF, Bool.false_eq_true, if_false] at hi ⊢
        exact ⟨fun _ => hi, fun q => absurd trivial q⟩
      | true =>
        simp only [hbL, if_true] at hi ⊢
        refine ⟨fun q => absurd q (nI_m1 _ (by have := bitN_le F n; omega)), fun _ => ⟨hin, ?_⟩⟩
        cases hbF : F.testBit n with
        | false =>
          simp only [hbF, Bool.false_eq_true, if_false] at hi
          rw [show nI (bitN F n) = 0 from by unfold bitN; rw [hbF]; rfl]
          refine ⟨fun _ => sp_sideF (by omega) ?_, fun q => absurd q (by decide)⟩
          rw [set_good hnf hokn hbn (hs.1 n (by omega))]
          exact hi
        | true =>
          simp only [hbF, if_true] at hi
          rw [show nI (bitN F n) = 1 from by unfold bitN; rw [hbF]; rfl]
          refine ⟨fun q => absurd rfl q, fun _ => sp_sideT (by omega) ?_⟩
          rw [set_bad hokn hbn (hs.1 n (by omega))]
          exact hi
  refine sg_X7_choose_o24 ?_
  rw [hs.2]
  have e : lN (msk (fun i => decide (bb i ≠ 0)) nf) = setL bb nf 0 0 := by
    unfold setL
    congr 1
    apply msk_ext
    intro j
    unfold fit
    simp
  rw [e]
  exact key 12 0 rfl
/-- what loops over the members gather -/
theorem gather {p : Nat → Bool} {g : Nat → Nat → Nat} {j i : Nat} (hi : i < nf) (hp : p i = true) (hj : fb_ct p i = j) {x : Nat} (hx : ∀ i', i' ≤ nf → fb_ct p i' = j → x = foN g p i') : ∀ i', i' ≤ nf → fb_ct p i' = j + 1 → g x i = foN g p i' := by
  intro i' hi' hc
  have h1 : foN g p (i + 1) = g (foN g p i) i := by rw [foN, hp]; rfl
  have h2 : fb_ct p (i + 1) = j + 1 := by rw [fb_ct_succ, hp, hj]; rfl
  rw [hx i (by omega) hj, ← h1]
  have hle : i + 1 ≤ i' ∨ i' ≤ i := by omega
  rcases hle with q | q
  · have := @foN_eq g p (i + 1) (i' - (i + 1)) (by rw [show i + 1 + (i' - (i + 1)) = i' from by omega, hc, h2])
    rw [show i + 1 + (i' - (i + 1)) = i' from by omega] at this
    exact this.symm
  · have := fb_ct_mono p q
    omega
theorem stepsN_le (i : Nat) : stepsN bb nf nn L F i ≤ nn := Nat.le_trans (lrN_le _ _ _).2 (unL_le _ _)
theorem restN_le (i : Nat) : restN bb nf nn L F i ≤ nf := (lrN_le _ _ _).1
theorem foN_bound {g : Nat → Nat → Nat} {p : Nat → Bool} {c : Nat} (hg : ∀ a i, g a i ≤ a + c) : ∀ i, foN g p i ≤ i * c
  | 0 => Nat.zero_le _
  | i + 1 => by
    have ih := foN_bound (p := p) hg i
    have := hg (foN g p i) i
    rw [Nat.succ_mul]
    unfold foN
    split
    · omega
    · omega
def gMax (v : Nat → Nat) (a i : Nat) : Nat := max a (v i)
def gSum (v : Nat → Nat) (a i : Nat) : Nat := a + v i
theorem gMax_le {v : Nat → Nat} {c : Nat} (hv : ∀ i, v i ≤ c) (a i : Nat) : gMax v a i ≤ a + c := by have := hv i; unfold gMax; omega
theorem gSum_le {v : Nat → Nat} {c : Nat} (hv : ∀ i, v i ≤ c) (a i : Nat) : gSum v a i ≤ a + c := by have := hv i; unfold gSum; omega
theorem max_I {a b : Nat} (ha : a < 2 ^ 31) (hb : b < 2 ^ 31) : (if nI a < nI b then nI b else nI a) = nI (max a b) := by
  by_cases h : a < b
  · rw [if_pos (nI_lt h hb), show max a b = b from by omega]
  · rw [if_neg (nI_nlt (by omega) ha), show max a b = a from by omega]
theorem sp_mostX {f : Int32 → gp_S → Prop} (hnf : nf ≤ 40) (hnn : nn ≤ 12) (hs : suX bb nf nn L F s) (h : f (nI (foN (gMax (stepsN bb nf nn L F)) (fit bb L F) nf)) s) : cl_X7_mostSteps G (N + 1) f s := by
  have hct : fb_ct (fit bb L F) nf ≤ nf := fb_ct_le _ _
  have hbd : ∀ i, i ≤ nf → foN (gMax (stepsN bb nf nn L F)) (fit bb L F) i ≤ 480 := fun i hi => Nat.le_trans (foN_bound (c := 12) (gMax_le (fun i => Nat.le_trans (stepsN_le i) hnn)) i) (by omega)
  have key : ∀ (m j x : Nat), j + m = fb_ct (fit bb L F) nf → x ≤ 480 → (∀ i, i ≤ nf → fb_ct (fit bb L F) i = j → x = foN (gMax (stepsN bb nf nn L F)) (fit bb L F) i) → at_X7_mostSteps_4 G (N + 1) (nI x) (nI j) f s := by
    intro m
    induction m with
    | zero =>
      intro j x hj hx hx2
      refine sg_X7_mostSteps_4 _ _ ?_
      rw [hs.1.1]
      refine pk_le (fb_ct (fit bb L F) nf) j (fun _ => ?_) (fun q => absurd q (by omega))
      rw [hx2 nf (Nat.le_refl _) (by omega)]
      exact h
    | succ m ih =>
      intro j x hj hx hx2
      obtain ⟨i, hi, hp, hij⟩ := fb_ct_kth (p := fit bb L F) (k := j) (n := nf) (by omega)
      have h28 := hs.1.2 i hi hp
      rw [hij] at h28
      have hst := @stepsN_le nf nn L F bb i
      refine sg_X7_mostSteps_4 _ _ ?_
      rw [hs.1.1, nI_clamp (by omega), h28, nI_clamp (by omega), (hs.2.2 i hi hp).2, nI_1, max_I (by omega) (by omega)]
      refine pk_le (fb_ct (fit bb L F) nf) j (fun q => absurd q (by omega)) (fun _ => ⟨vp_in_nI (by omega) (by omega), vp_in_nI (by omega) (by omega), ?_⟩)
      have hg := gather hi hp hij hx2
      refine ih (j + 1) _ (by omega) (by omega) hg
  exact sg_X7_mostSteps (key (fb_ct (fit bb L F) nf) 0 0 (by omega) (by omega) (fun i hi hc => by
    have := @foN_eq (gMax (stepsN bb nf nn L F)) (fit bb L F) 0 i (by rw [Nat.zero_add, hc]; rfl)
    rw [Nat.zero_add] at this
    exact this.symm))
theorem sp_restX {f : Int32 → gp_S → Prop} (hnf : nf ≤ 40) (hnn : nn ≤ 12) (hs : suX bb nf nn L F s) (h : f (nI (foN (gMax (restN bb nf nn L F)) (fit bb L F) nf)) s) : cl_X7_greatestRest G (N + 1) f s := by
  have hct : fb_ct (fit bb L F) nf ≤ nf := fb_ct_le _ _
  have key : ∀ (m j x : Nat), j + m = fb_ct (fit bb L F) nf → x ≤ 40 → (∀ i, i ≤ nf → fb_ct (fit bb L F) i = j → x = foN (gMax (restN bb nf nn L F)) (fit bb L F) i) → at_X7_greatestRest_4 G (N + 1) (nI x) (nI j) f s := by
    intro m
    induction m with
    | zero =>
      intro j x hj hx hx2
      refine sg_X7_greatestRest_4 _ _ ?_
      rw [hs.1.1]
      refine pk_le (fb_ct (fit bb L F) nf) j (fun _ => ?_) (fun q => absurd q (by omega))
      rw [hx2 nf (Nat.le_refl _) (by omega)]
      exact h
    | succ m ih =>
      intro j x hj hx hx2
      obtain ⟨i, hi, hp, hij⟩ := fb_ct_kth (p := fit bb L F) (k := j) (n := nf) (by omega)
      have h28 := hs.1.2 i hi hp
      rw [hij] at h28
      have hst := @restN_le nf nn L F bb i
      refine sg_X7_greatestRest_4 _ _ ?_
      rw [hs.1.1, nI_clamp (by omega), h28, nI_clamp (by omega), (hs.2.2 i hi hp).1, nI_1, max_I (by omega) (by omega)]
      refine pk_le (fb_ct (fit bb L F) nf) j (fun q => absurd q (by omega)) (fun _ => ⟨vp_in_nI (by omega) (by omega), vp_in_nI (by omega) (by omega), ?_⟩)
      have hg := gather hi hp hij hx2
      refine ih (j + 1) _ (by omega) (by omega) hg
  exact sg_X7_greatestRest (key (fb_ct (fit bb L F) nf) 0 0 (by omega) (by omega) (fun i hi hc => by
    have := @foN_eq (gMax (restN bb nf nn L F)) (fit bb L F) 0 i (by rw [Nat.zero_add, hc]; rfl)
    rw [Nat.zero_add] at this
    exact this.symm))
theorem sp_allX {f : Int32 → gp_S → Prop} (hnf : nf ≤ 40) (hnn : nn ≤ 12) (hs : suX bb nf nn L F s) (h : f (nI (foN (gSum (stepsN bb nf nn L F)) (fit bb L F) nf)) s) : cl_X7_allSteps G N f s := by
  have hct : fb_ct (fit bb L F) nf ≤ nf := fb_ct_le _ _
  have key : ∀ (m j x : Nat), j + m = fb_ct (fit bb L F) nf → (∀ i, i ≤ nf → fb_ct (fit bb L F) i = j → x = foN (gSum (stepsN bb nf nn L F)) (fit bb L F) i) → at_X7_allSteps_4 G N (nI x) (nI j) f s := by
    intro m
    induction m with
    | zero =>
      intro j x hj hx2
      refine sg_X7_allSteps_4 _ _ ?_
      rw [hs.1.1]
      refine pk_le (fb_ct (fit bb L F) nf) j (fun _ => ?_) (fun q => absurd q (by omega))
      rw [hx2 nf (Nat.le_refl _) (by omega)]
      exact h
    | succ m ih =>
      intro j x hj hx2
      obtain ⟨i, hi, hp, hij⟩ := fb_ct_kth (p := fit bb L F) (k := j) (n := nf) (by omega)
      have h28 := hs.1.2 i hi hp
      rw [hij] at h28
      have hst := @stepsN_le nf nn L F bb i
      refine sg_X7_allSteps_4 _ _ ?_
      rw [hs.1.1, nI_clamp (by omega), h28, nI_clamp (by omega), (hs.2.2 i hi hp).2, nI_1, nI_add]
      refine pk_le (fb_ct (fit bb L F) nf) j (fun q => absurd q (by omega)) (fun _ => ⟨vp_in_nI (by omega) (by omega), vp_in_nI (by omega) (by omega), ?_⟩)
      have hg := gather hi hp hij hx2
      refine ih (j + 1) _ (by omega) hg
  exact sg_X7_allSteps (key (fb_ct (fit bb L F) nf) 0 0 (by omega) (fun i hi hc => by
    have := @foN_eq (gSum (stepsN bb nf nn L F)) (fit bb L F) 0 i (by rw [Nat.zero_add, hc]; rfl)
    rw [Nat.zero_add] at this
    exact this.symm))
theorem sp_slearn {f : gp_S → Prop} (hnf : nf ≤ 40) (hbb : ∀ i, i < nf → bb i < 2 ^ 12) (h3 : s.1 20 3 = nI nf) (h22 : ∀ i, i < nf → s.1 22 i = nI (bb i)) (h : ∀ s', fm (fun a k => a == 27 || (a == 26 && k == 1)) s s' → sbX bb nf s' → f s') : cl_X7_learn_o20 G N f s := by
  have outer : ∀ (m n : Nat) (s1 : gp_S), n + m = 12 → fm (fun a k => a == 27 || (a == 26 && k == 1)) s s1 → (∀ j, j < n → s1.2 27 j = lN (msk (fun i => (bb i).testBit j) nf)) → s1.2 26 1 = lN (msk (fun i => decide (bb i % 2 ^ n ≠ 0)) nf) → at_X7_learn_o20_7 G N (nI n) f s1 := by
    intro m
    induction m with
    | zero =>
      intro n s1 hn hf hj hsn
      refine sg_X7_learn_o20_7 _ (pk_le 12 n (fun _ => h s1 hf ⟨fun j hj' => hj j (by omega), ?_⟩) (fun q => absurd q (by omega)))
      rw [hsn]
      congr 1
      apply msk_ext
      intro i
      by_cases hi : i < nf
      · rw [show n = 12 from by omega, Nat.mod_eq_of_lt (hbb i hi)]
      · simp [hi]
    | succ m ih =>
      intro n s1 hn hf hj hsn
      have hin : vp_in (nI n) 12 := vp_in_nI (by omega) (by omega)
      refine sg_X7_learn_o20_7 _ (pk_le 12 n (fun q => absurd q (by omega)) (fun _ => ⟨hin, ?_⟩))
      rw [nI_clamp (by omega)]
      have inner : ∀ (d i : Nat) (s2 : gp_S), i + d = nf → fm (fun a k => a == 27 || (a == 26 && k == 1)) s s2 → (∀ j, j < n → s2.2 27 j = lN (msk (fun i => (bb i).testBit j) nf)) → s2.2 27 n = lN (msk (fun i => (bb i).testBit n) i) → s2.2 26 1 = lN (msk (fun i => decide (bb i % 2 ^ n ≠ 0)) nf) → at_X7_learn_o20_22 G N (nI n) (nI i) f s2 := by
        intro d
        induction d with
        | zero =>
          intro i s2 hi hf2 hj2 hn2 hs2
          refine sg_X7_learn_o20_22 _ _ ?_
          rw [hf2.i 20 3, h3, nI_clamp (by omega), nI_1 n]
          refine pk_le nf i (fun _ => ⟨hin, ih (n + 1) _ (by omega) (hf2.uj 26 1 _) (fun j hj' => ?_) ?_⟩) (fun q => absurd q (by omega))
          · rw [uj_at, if_neg (by omega)]
            by_cases e : j = n
            · rw [e, hn2, show i = nf from by omega]
            · exact hj2 j (by omega)
          · rw [uj_at, if_pos ⟨rfl, rfl⟩, hs2, hn2, show i = nf from by omega, fb_orL, msk_or]
            congr 1
            apply msk_ext
            intro j
            congr 1
            rw [Bool.eq_iff_iff, Bool.or_eq_true, decide_eq_true_eq, decide_eq_true_eq]
            have hm : bb j % 2 ^ (n + 1) = bb j % 2 ^ n + 2 ^ n * (bb j / 2 ^ n % 2) := by rw [Nat.pow_succ, Nat.mod_mul]
            rw [hm, Nat.testBit_eq_decide_div_mod_eq, decide_eq_true_eq]
            have h2n := Nat.two_pow_pos n
            rcases Nat.mod_two_eq_zero_or_one (bb j / 2 ^ n) with e | e
            · rw [e]; omega
            · rw [e]
              constructor
              · intro _; omega
              · intro _; exact Or.inr rfl
        | succ d ihd =>
          intro i s2 hi hf2 hj2 hn2 hs2
          have hb := hbb i (by omega)
          refine sg_X7_learn_o20_22 _ _ ?_
          rw [hf2.i 20 3, h3, nI_clamp (show n < 2 ^ 31 by omega), nI_clamp (show i < 2 ^ 31 by omega), hf2.i 22 i, h22 i (by omega), bI_bit (by omega) (by omega), nI_1 i, hn2]
          refine pk_le nf i (fun q => absurd q (by omega)) (fun _ => ⟨hin, vp_in_nI (by omega) (by omega), hin, ?_⟩)
          have hbe : nI (if (bb i).testBit n = true then 1 else 0) = nI (bitN (bb i) n) := rfl
          rw [hbe, nI_l (by have := bitN_le (bb i) n; omega), lI_shlB (bitN_le _ _) (by omega), fb_orL]
          refine ihd (i + 1) _ (by omega) (hf2.uj 27 _ _) (fun j hj' => ?_) ?_ ?_
          · rw [uj_at, if_neg (by omega)]; exact hj2 j hj'
          · rw [uj_at, if_pos ⟨rfl, rfl⟩]
            congr 1
            rw [msk]
            unfold bitN
            cases (bb i).testBit n <;> simp
          · rw [uj_at, if_neg (by omega)]; exact hs2
      refine inner nf 0 _ (by omega) (hf.uj 27 _ _) (fun j hj' => ?_) ?_ ?_
      · rw [uj_at, if_neg (by omega)]; exact hj j hj'
      · rw [uj_at, if_pos ⟨rfl, rfl⟩]; rfl
      · rw [uj_at, if_neg (by omega)]; exact hsn
  refine sg_X7_learn_o20 (outer 12 0 _ rfl (fm_rfl.uj 26 1 _) (fun j hj => absurd hj (Nat.not_lt_zero j)) ?_)
  rw [uj_at, if_pos ⟨rfl, rfl⟩]
  rw [show msk (fun i => decide (bb i % 2 ^ 0 ≠ 0)) nf = 0 from msk_z.mpr (fun j _ => by simp [Nat.mod_one])]
  rfl
end UX2
