/-- the sets of the class: of faults by which each node is bad, and of those that show at all -/
def sbX (bb : Nat → Nat) (nf : Nat) (s : gp_S) : Prop := (∀ n, n < 12 → s.2 27 n = lN (msk (fun i => (bb i).testBit n) nf)) ∧ s.2 26 1 = lN (msk (fun i => decide (bb i ≠ 0)) nf)
def setL (bb : Nat → Nat) (nf L F : Nat) : Int64 := lN (msk (fit bb L F) nf)
theorem msk_and {p q : Nat → Bool} {n : Nat} : msk p n &&& msk q n = msk (fun i => p i && q i) n := by
  apply Nat.eq_of_testBit_eq
  intro j
  rw [Nat.testBit_and, msk_bit, msk_bit, msk_bit]
  cases decide (j < n) <;> cases p j <;> cases q j <;> rfl
theorem lN_cmpl {p q : Nat → Bool} {n : Nat} (hn : n ≤ 40) : lN (msk p n) &&& (lN (msk q n) ^^^ (-1)) = lN (msk (fun i => p i && !q i) n) := by
  apply Int64.toBitVec_inj.mp
  show BitVec.ofNat 64 (msk p n) &&& (BitVec.ofNat 64 (msk q n) ^^^ (-1#64)) = BitVec.ofNat 64 (msk (fun i => p i && !q i) n)
  apply BitVec.eq_of_getLsbD_eq
  intro i hi
  have e : (-1#64).getLsbD i = true := by
    rw [show (-1#64) = BitVec.allOnes 64 from by decide, BitVec.getLsbD_allOnes]
    simp only [hi, decide_true]
  simp only [BitVec.getLsbD_and, BitVec.getLsbD_xor, BitVec.getLsbD_ofNat, e, hi, decide_true, Bool.true_and, msk_bit]
  cases decide (i < n) <;> cases p i <;> cases q i <;> rfl
section UX
variable {G : gp_G} {N nf nn L F : Nat} {bb : Nat → Nat} {s : gp_S}
theorem set_bad {n : Nat} (h : okL nn L F) (hn : L.testBit n = false) (hb : s.2 27 n = lN (msk (fun i => (bb i).testBit n) nf)) : setL bb nf L F &&& s.2 27 n = setL bb nf (L ||| 2 ^ n) (F ||| 2 ^ n) := by
  unfold setL
  rw [hb, fb_andL, msk_and]
  congr 1
  apply msk_ext
  intro j
  rw [fit_bad hn (h.F hn)]
theorem set_good {n : Nat} (hnf : nf ≤ 40) (h : okL nn L F) (hn : L.testBit n = false) (hb : s.2 27 n = lN (msk (fun i => (bb i).testBit n) nf)) : setL bb nf L F &&& (s.2 27 n ^^^ (-1)) = setL bb nf (L ||| 2 ^ n) F := by
  unfold setL
  rw [hb, lN_cmpl hnf]
  congr 1
  apply msk_ext
  intro j
  rw [fit_good (h.F hn)]
theorem sp_sideT {n : Nat} {f : Int64 → gp_S → Prop} (hn : n < 12) (h : f (s.2 27 n) s) : cl_X7_side G N (nI n) 1 f s := by
  refine sg_X7_side _ _ ⟨fun q => absurd q (by decide), fun _ => ⟨vp_in_nI hn (by omega), ?_⟩⟩
  rw [nI_clamp (by omega)]
  exact h
theorem sp_sideF {n : Nat} {f : Int64 → gp_S → Prop} (hn : n < 12) (h : f (s.2 27 n ^^^ (-1)) s) : cl_X7_side G N (nI n) 0 f s := by
  refine sg_X7_side _ _ ⟨fun _ => ⟨vp_in_nI hn (by omega), ?_⟩, fun q => absurd rfl q⟩
  rw [nI_clamp (by omega)]
  exact h
theorem sp_nextX {f : Int32 → gp_S → Prop} (hnf : nf ≤ 40) (hnn : nn ≤ 12) (hL : okL nn L F) (hbb : ∀ i, i < nf → bb i < 2 ^ nn) (hs : sbX bb nf s) (h : f (figI (nxN bb nf nn L F)) s) : cl_X7_nextOf G (N + 1) (setL bb nf L F) (nI L) f s := by
  have hL31 : L < 2 ^ 31 := Nat.lt_of_lt_of_le hL.1 (Nat.pow_le_pow_right (by omega) (by omega))
  have hall : cntN bb nf L F ≤ 40 := Nat.le_trans (fb_ct_le _ _) hnf
  have hsq : cntN bb nf L F * cntN bb nf L F ≤ 40 * 40 := Nat.mul_le_mul hall hall
  have key : ∀ (m n : Nat), n + m = 12 → at_X7_nextOf_19 G (N + 1) (setL bb nf L F) (nI L) (nI (cntN bb nf L F)) (figI (nxS bb nf L F n).1) (nI (nxS bb nf L F n).2) (nI n) f s := by
    intro m
    induction m with
    | zero =>
      intro n hn
      refine sg_X7_nextOf_19 _ _ _ _ _ _ (pk_le 12 n (fun _ => ?_) (fun q => absurd q (by omega)))
      have := nxS_more hL hbb (12 - nn)
      rw [show nn + (12 - nn) = 12 from by omega] at this
      rw [show n = 12 from by omega, this]
      exact h
    | succ m ih =>
      intro n hn
      have hle := nxS_le bb nf L F n
      refine sg_X7_nextOf_19 _ _ _ _ _ _ (pk_le 12 n (fun q => absurd q (by omega)) (fun _ => ⟨vp_in_nI (by omega) (by omega), ?_⟩))
      rw [nI_clamp (by omega), nI_1, bI_bit hL31 (by omega)]
      have hi := ih (n + 1) (by omega)
      rw [nxS] at hi
      cases hb : L.testBit n with
      | true =>
        rw [hb] at hi
        simp only [if_true] at hi
        unfold setL
        rw [hs.1 n (by omega), fb_andL, msk_and]
        refine sp_bitcM hnf ⟨fun _ => hi, fun q => absurd q (by decide)⟩
      | false =>
        rw [hb] at hi
        simp only [Bool.false_eq_true, if_false] at hi
        rw [set_bad hL hb (hs.1 n (by omega))]
        have hc := @cnt_bad_le bb nf nn L F n hL hb
        unfold setL
        refine sp_bitcM hnf ⟨fun q => absurd rfl q, fun _ => ?_⟩
        show _ ∧ _
        rw [show fb_ct (fit bb (L ||| 2 ^ n) (F ||| 2 ^ n)) nf = cntN bb nf (L ||| 2 ^ n) (F ||| 2 ^ n) from rfl]
        generalize hcv : cntN bb nf (L ||| 2 ^ n) (F ||| 2 ^ n) = c at hi hc
        have q1 : c * c ≤ 40 * 40 := Nat.mul_le_mul (by omega) (by omega)
        have q2 : (cntN bb nf L F - c) * (cntN bb nf L F - c) ≤ 40 * 40 := Nat.mul_le_mul (by omega) (by omega)
        rw [pk_sub hc, pk_mul, pk_mul, nI_add]
        refine pk_le (nxS bb nf L F n).2 (c * c + (cntN bb nf L F - c) * (cntN bb nf L F - c)) (fun q => ?_) (fun q => ?_)
        · rw [if_neg (by omega)] at hi
          exact hi
        · rw [if_pos q] at hi
          exact hi
  unfold setL
  refine sg_X7_nextOf _ _ (sp_bitcM hnf ?_)
  rw [pk_mul]
  exact key 12 0 rfl
theorem sp_endX {f : gp_S → Prop} {k : Nat} (hnf : nf ≤ 40) (h : ∀ s', fr [29, 30] s s' → (∀ i, i < nf → fit bb L F i = true → s'.1 29 i = nI (cntN bb nf L F) ∧ s'.1 30 i = nI k) → (∀ i, ¬ (i < nf ∧ fit bb L F i = true) → s'.1 29 i = s.1 29 i ∧ s'.1 30 i = s.1 30 i) → f s') : cl_X7_end G (N + 1) (setL bb nf L F) (nI k) f s := by
  have hlt : msk (fit bb L F) nf < 2 ^ 63 := Nat.lt_of_lt_of_le (msk_lt _ _) (Nat.pow_le_pow_right (by omega) (by omega))
  have key : ∀ (m i : Nat) (s1 : gp_S), i + m = 40 → fr [29, 30] s s1 → (∀ j, j < i → j < nf → fit bb L F j = true → s1.1 29 j = nI (cntN bb nf L F) ∧ s1.1 30 j = nI k) → (∀ j, ¬ (j < i ∧ j < nf ∧ fit bb L F j = true) → s1.1 29 j = s.1 29 j ∧ s1.1 30 j = s.1 30 j) → at_X7_end_9 G (N + 1) (setL bb nf L F) (nI k) (nI (cntN bb nf L F)) (nI i) f s1 := by
    intro m
    induction m with
    | zero =>
      intro i s1 hi hf h1 h2
      exact sg_X7_end_9 _ _ _ _ (pk_le 40 i (fun _ => h s1 hf (fun j hj hp => h1 j (by omega) hj hp) (fun j hj => h2 j (fun q => hj ⟨q.2.1, q.2.2⟩))) (fun q => absurd q (by omega)))
    | succ m ih =>
      intro i s1 hi hf h1 h2
      refine sg_X7_end_9 _ _ _ _ (pk_le 40 i (fun q => absurd q (by omega)) (fun _ => ?_))
      have hin : vp_in (nI i) 40 := vp_in_nI (by omega) (by omega)
      unfold setL
      rw [lI_bit hlt (by omega), lg_cmp_0, show (0 : Int64) = lN 0 from rfl, fb_lN_inj (by have := bitN_le (msk (fit bb L F) nf) i; omega) (by omega), nI_clamp (by omega), nI_1]
      have hbit : bitN (msk (fit bb L F) nf) i = 0 ↔ ¬ (i < nf ∧ fit bb L F i = true) := by
        unfold bitN
        rw [msk_bit]
        by_cases q : i < nf
        · cases hp : fit bb L F i <;> simp [q]
        · simp [q]
      rw [hbit]
      refine ⟨fun e => ih (i + 1) s1 (by omega) hf (fun j hj hj2 hp => ?_) (fun j hj => ?_), fun e => ⟨hin, hin, ih (i + 1) _ (by omega) ((hf.ui (a := 29) i _).ui (a := 30) i _) (fun j hj hj2 hp => ?_) (fun j hj => ?_)⟩⟩
      · by_cases ej : j = i
        · subst ej; exact absurd ⟨hj2, hp⟩ e
        · exact h1 j (by omega) hj2 hp
      · exact h2 j (fun q => hj ⟨by omega, q.2⟩)
      · simp only [ui_at]
        by_cases ej : j = i
        · subst ej; simp
        · simp only [ej, and_false, if_false]
          exact h1 j (by omega) hj2 hp
      · have ei : i < nf ∧ fit bb L F i = true := Decidable.not_not.mp e
        have ej : j ≠ i := fun q => hj ⟨by omega, by rw [q]; exact ei⟩
        simp only [ui_at, ej, and_false, if_false]
        exact h2 j (fun q => hj ⟨by omega, q.2⟩)
  have hk : cl_X7_end G (N + 1) (lN (msk (fit bb L F) nf)) (nI k) f s := sg_X7_end _ _ (sp_bitcM hnf (key 40 0 s rfl fr_rfl (fun j hj => absurd hj (Nat.not_lt_zero j)) (fun j _ => ⟨rfl, rfl⟩)))
  exact hk
theorem sbX.fr {s' : gp_S} {l : List Nat} (hs : sbX bb nf s) (hf : fr l s s') (h1 : 26 ∉ l := by decide) (h2 : 27 ∉ l := by decide) : sbX bb nf s' := by
  unfold sbX
  rw [hf.j 26 h1, hf.j 27 h2]
  exact hs
theorem sp_goOn (hnf : nf ≤ 40) (hnn : nn ≤ 12) (hbb : ∀ i, i < nf → bb i < 2 ^ nn) : ∀ (d L F k : Nat) (s : gp_S) (f : gp_S → Prop), unL nn L = d → okL nn L F → k + d ≤ 12 → sbX bb nf s → (∀ s', fr [29, 30] s s' → (∀ i, i < nf → fit bb L F i = true → s'.1 29 i = nI (restN bb nf nn L F i) ∧ s'.1 30 i = nI (k + stepsN bb nf nn L F i)) → (∀ i, ¬ (i < nf ∧ fit bb L F i = true) → s'.1 29 i = s.1 29 i ∧ s'.1 30 i = s.1 30 i) → f s') → cl_X7_goOn G (N + d + 2) (setL bb nf L F) (nI L) (nI k) f s := by
  intro d
  induction d with
  | zero =>
    intro L F k s f hd hL hk hs h
    have hnone := @unL_none bb nf nn L F hd
    have hend : cl_X7_end G (N + 0 + 1) (setL bb nf L F) (nI k) (fun s' => f s') s := by
      refine sp_endX hnf (fun s' hf h1 h2 => h s' hf (fun i hi hp => ?_) h2)
      rw [restN, stepsN, lrN_none hnone]
      exact h1 i hi hp
    refine sg_X7_goOn _ _ _ (pk_le 12 k (fun _ => ⟨fun q => absurd rfl q, fun _ => hend⟩) (fun _ => ?_))
    refine sp_nextX hnf hnn hL hbb hs ?_
    rw [hnone]
    exact ⟨fun q => absurd rfl q, fun _ => hend⟩
  | succ d ih =>
    intro L F k s f hd hL hk hs h
    refine sg_X7_goOn _ _ _ (pk_le 12 k (fun q => absurd q (by omega)) (fun _ => ?_))
    refine sp_nextX hnf hnn hL hbb hs ?_
    cases hx : nxN bb nf nn L F with
    | none =>
      refine ⟨fun q => absurd rfl q, fun _ => ?_⟩
      refine sp_endX hnf (fun s' hf h1 h2 => h s' hf (fun i hi hp => ?_) h2)
      rw [restN, stepsN, lrN_none hx]
      exact h1 i hi hp
    | some n =>
      obtain ⟨hn1, hn2⟩ := nxS_some hx
      have hu := unL_or hn1 hn2
      have hF := hL.F hn2
      refine ⟨fun _ => ?_, fun q => absurd q (nI_m1 n (by omega))⟩
      show cl_X7_side G (N + d + 2) (nI n) 1 _ s
      refine sp_sideT (by omega) ?_
      rw [set_bad hL hn2 (hs.1 n (by omega)), show figI (some n) = nI n from rfl, bI_1shl (by omega), bI_or, nI_1]
      refine ih (L ||| 2 ^ n) (F ||| 2 ^ n) (k + 1) s _ (by omega) (okL_bad hL hn1) (by omega) hs (fun s1 hf1 h1 h2 => ?_)
      refine sp_sideF (by omega) ?_
      have hs1 : sbX bb nf s1 := hs.fr hf1
      rw [set_good hnf hL hn2 (hs1.1 n (by omega))]
      refine ih (L ||| 2 ^ n) F (k + 1) s1 _ (by omega) (okL_good hL hn1) (by omega) hs1 (fun s2 hf2 h3 h4 => ?_)
      refine h s2 (hf1.trans hf2) (fun i hi hp => ?_) (fun i hi => ?_)
      · rw [restN, stepsN, lrN_some hx, and_2b]
        cases hb : (bb i).testBit n with
        | true =>
          simp only [if_true]
          have hp1 : fit bb (L ||| 2 ^ n) (F ||| 2 ^ n) i = true := by rw [fit_bad hn2 hF, hp, hb]; rfl
          have hp2 : ¬ (i < nf ∧ fit bb (L ||| 2 ^ n) F i = true) := by
            rw [fit_good hF, hb]
            simp
          rw [(h4 i hp2).1, (h4 i hp2).2]
          have := h1 i hi hp1
          rw [restN, stepsN] at this
          rw [this.1, this.2, show k + 1 + (lrN bb nf nn i (unL nn (L ||| 2 ^ n)) (L ||| 2 ^ n) (F ||| 2 ^ n)).2 = k + ((lrN bb nf nn i (unL nn (L ||| 2 ^ n)) (L ||| 2 ^ n) (F ||| 2 ^ n)).2 + 1) from by omega]
          exact ⟨rfl, rfl⟩
        | false =>
          simp only [Bool.false_eq_true, if_false, Nat.or_zero]
          have hp1 : fit bb (L ||| 2 ^ n) F i = true := by rw [fit_good hF, hp, hb]; rfl
          have := h3 i hi hp1
          rw [restN, stepsN] at this
          rw [this.1, this.2, show k + 1 + (lrN bb nf nn i (unL nn (L ||| 2 ^ n)) (L ||| 2 ^ n) F).2 = k + ((lrN bb nf nn i (unL nn (L ||| 2 ^ n)) (L ||| 2 ^ n) F).2 + 1) from by omega]
          exact ⟨rfl, rfl⟩
      · have g1 : ¬ (i < nf ∧ fit bb (L ||| 2 ^ n) (F ||| 2 ^ n) i = true) := by
          rintro ⟨q1, q2⟩
          rw [fit_bad hn2 hF, Bool.and_eq_true] at q2
          exact hi ⟨q1, q2.1⟩
        have g2 : ¬ (i < nf ∧ fit bb (L ||| 2 ^ n) F i = true) := by
          rintro ⟨q1, q2⟩
          rw [fit_good hF, Bool.and_eq_true] at q2
          exact hi ⟨q1, q2.1⟩
        rw [(h4 i g2).1, (h4 i g2).2]
        exact h2 i g1
/-- members of a set, in order -/
def mbX (p : Nat → Bool) (nf : Nat) (s : gp_S) : Prop := s.1 26 5 = nI (fb_ct p nf) ∧ ∀ i, i < nf → p i = true → s.1 28 (fb_ct p i) = nI i
theorem sp_members {f : gp_S → Prop} {p : Nat → Bool} (hnf : nf ≤ 40) (h : ∀ s', fm (fun a k => a == 28 || (a == 26 && k == 5)) s s' → mbX p nf s' → f s') : cl_X7_listMembers G N (lN (msk p nf)) f s := by
  have hlt : msk p nf < 2 ^ 63 := Nat.lt_of_lt_of_le (msk_lt _ _) (Nat.pow_le_pow_right (by omega) (by omega))
  have key : ∀ (m i : Nat) (s1 : gp_S), i + m = 40 → fm (fun a k => a == 28 || (a == 26 && k == 5)) s s1 → s1.1 26 5 = nI (fb_ct p (min i nf)) → (∀ j, j < min i nf → p j = true → s1.1 28 (fb_ct p j) = nI j) → at_X7_listMembers_7 G N (lN (msk p nf)) (nI i) f s1 := by
    intro m
    induction m with
    | zero =>
      intro i s1 hi hf h5 hm
      refine sg_X7_listMembers_7 _ _ (pk_le 40 i (fun _ => h s1 hf ⟨?_, fun j hj hp => hm j (by omega) hp⟩) (fun q => absurd q (by omega)))
      rw [h5, show min i nf = nf from by omega]
    | succ m ih =>
      intro i s1 hi hf h5 hm
      refine sg_X7_listMembers_7 _ _ (pk_le 40 i (fun q => absurd q (by omega)) (fun _ => ?_))
      rw [lI_bit hlt (by omega), lg_cmp_0, show (0 : Int64) = lN 0 from rfl, fb_lN_inj (by have := bitN_le (msk p nf) i; omega) (by omega), nI_1 i, h5]
      have hbit : bitN (msk p nf) i = 0 ↔ ¬ (i < nf ∧ p i = true) := by
        unfold bitN
        rw [msk_bit]
        by_cases q : i < nf
        · cases hp : p i <;> simp [q]
        · simp [q]
      rw [hbit]
      have hct := fb_ct_le p (min i nf)
      refine ⟨fun e => ih (i + 1) s1 (by omega) hf ?_ (fun j hj hp => ?_), fun e => ?_⟩
      · rw [h5]
        by_cases q : i < nf
        · have hp : p i = false := by cases hp : p i with | false => rfl | true => exact absurd ⟨q, hp⟩ e
          rw [show min (i + 1) nf = i + 1 from by omega, fb_ct_succ, hp, show min i nf = i from by omega]
          rfl
        · rw [show min (i + 1) nf = min i nf from by omega]
      · by_cases ej : j = i
        · subst ej; exact absurd ⟨by omega, hp⟩ e
        · exact hm j (by omega) hp
      · have e : i < nf ∧ p i = true := Decidable.not_not.mp e
        rw [show min i nf = i from by omega] at h5 hm hct ⊢
        refine ⟨vp_in_nI (by omega) (by omega), ?_⟩
        rw [nI_clamp (by omega), nI_1]
        refine ih (i + 1) _ (by omega) ((hf.ui 28 _ _).ui 26 5 _) ?_ (fun j hj hp => ?_)
        · rw [ui_at, if_pos ⟨rfl, rfl⟩, show min (i + 1) nf = i + 1 from by omega, fb_ct_succ, e.2]
          rfl
        · rw [ui_at, if_neg (by omega), ui_at]
          by_cases ej : j = i
          · subst ej; simp
          · have hne : fb_ct p j ≠ fb_ct p i := fun q => ej (fb_ct_kth_one hp e.2 q)
            rw [if_neg (by omega)]
            exact hm j (by omega) hp
  refine sg_X7_listMembers _ (key 40 0 _ rfl (fm_rfl.ui 26 5 _) ?_ (fun j hj => absurd hj (by omega)))
  rw [ui_at, if_pos ⟨rfl, rfl⟩, Nat.zero_min]
  rfl
end UX
