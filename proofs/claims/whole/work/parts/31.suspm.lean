/-- what the reference keeps of suspects: faults, what they show, nodes -/
def sM (bb : Nat → Nat) (nf nn : Nat) (s : gp_S) : Prop := s.1 34 26 = nI nf ∧ s.1 34 3 = nI nn ∧ ∀ i, i < nf → s.1 47 i = nI (bb i)
theorem sM.fm {bb : Nat → Nat} {nf nn : Nat} {s s' : gp_S} {P : Nat → Nat → Bool} (h : sM bb nf nn s) (hf : fm P s s') (h1 : P 34 26 = false := by rfl) (h2 : P 34 3 = false := by rfl) (h3 : ∀ k, P 47 k = false := by intro k; rfl) : sM bb nf nn s' := ⟨by rw [hf.i 34 26 h1]; exact h.1, by rw [hf.i 34 3 h2]; exact h.2.1, fun i hi => by rw [hf.i 47 i (h3 i)]; exact h.2.2 i hi⟩
def pLR (a k : Nat) : Bool := a == 34 && (k == 30 || k == 31)
def pLS (a k : Nat) : Bool := a == 34 && (k == 30 || k == 31 || k == 32 || k == 33 || k == 34)
section UM
variable {G : gp_G} {N nf nn L F : Nat} {bb : Nat → Nat} {s : gp_S}
theorem okL.lt (h : okL nn L F) (hnn : nn ≤ 12) : L < 2 ^ 12 ∧ F < 2 ^ 12 := by
  have hL12 : L < 2 ^ 12 := Nat.lt_of_lt_of_le h.1 (Nat.pow_le_pow_right (by omega) hnn)
  refine ⟨hL12, ?_⟩
  apply Nat.lt_pow_two_of_testBit
  intro i hi
  cases hf : F.testBit i with
  | false => rfl
  | true =>
    have := h.2 i hf
    rw [Nat.testBit_lt_two_pow (Nat.lt_of_lt_of_le hL12 (Nat.pow_le_pow_right (by omega) hi))] at this
    cases this
theorem sp_fitsM {f : Int32 → gp_S → Prop} {i : Nat} (hnf : nf ≤ 40) (hbb : ∀ i, i < nf → bb i < 2 ^ 12) (hL : L < 2 ^ 12) (hF : F < 2 ^ 12) (hs : sM bb nf nn s) (hi : i < nf) (h : f (if fit bb L F i then 1 else 0) s) : cl_X10_fits G N (nI i) (nI L) (nI F) f s := by
  have hb := hbb i hi
  have hx : (bb i ^^^ F) &&& L < 2 ^ 12 := Nat.lt_of_le_of_lt Nat.and_le_right hL
  have hin : vp_in (nI i) 40 := vp_in_nI (by omega) (by omega)
  refine sg_X10_fits _ _ _ ⟨hin, ?_⟩
  rw [nI_clamp (by omega), hs.2.2 i hi, fb_xorI, bI_and]
  unfold fit at h
  refine pk_eq (bb i) 0 (fun e => ?_) (fun e => ⟨hin, pk_ne ((bb i ^^^ F) &&& L) 0 (fun e2 => ?_) (fun e2 => ?_)⟩)
  · simpa [e] using h
  · simpa [e, e2] using h
  · simpa [e, e2] using h
theorem sp_fitM {f : Int32 → gp_S → Prop} (hnf : nf ≤ 40) (hbb : ∀ i, i < nf → bb i < 2 ^ 12) (hL : L < 2 ^ 12) (hF : F < 2 ^ 12) (hs : sM bb nf nn s) (h : f (nI (cntN bb nf L F)) s) : cl_X10_fitting G (N + 1) (nI L) (nI F) f s := by
  have key : ∀ (m i : Nat), i + m = nf → at_X10_fitting_5 G (N + 1) (nI L) (nI F) (nI (fb_ct (fit bb L F) i)) (nI i) f s := by
    intro m
    induction m with
    | zero =>
      intro i hi
      refine sg_X10_fitting_5 _ _ _ _ ?_
      rw [hs.1]
      exact pk_le nf i (fun _ => by rw [show i = nf from by omega]; exact h) (fun q => absurd q (by omega))
    | succ m ih =>
      intro i hi
      refine sg_X10_fitting_5 _ _ _ _ ?_
      rw [hs.1, nI_1 i, nI_1, show (0 : Int32) = nI 0 from rfl, nI_add, Nat.add_zero]
      refine pk_le nf i (fun q => absurd q (by omega)) (fun _ => sp_fitsM hnf hbb hL hF hs (by omega) ?_)
      have hi' := ih (i + 1) (by omega)
      rw [fb_ct_succ] at hi'
      cases hp : fit bb L F i with
      | true => rw [hp] at hi'; exact ⟨fun q => absurd q (by decide), fun _ => hi'⟩
      | false => rw [hp] at hi'; exact ⟨fun _ => hi', fun q => absurd rfl q⟩
  exact sg_X10_fitting _ _ (key nf 0 (by omega))
theorem sp_nextM {f : Int32 → gp_S → Prop} (hnf : nf ≤ 40) (hnn : nn ≤ 12) (hbb : ∀ i, i < nf → bb i < 2 ^ 12) (hL : okL nn L F) (hs : sM bb nf nn s) (h : f (figI (nxN bb nf nn L F)) s) : cl_X10_nextBy G (N + 2) (nI L) (nI F) f s := by
  obtain ⟨hL12, hF12⟩ := hL.lt hnn
  have hall : cntN bb nf L F ≤ 40 := Nat.le_trans (fb_ct_le _ _) hnf
  have hsq : cntN bb nf L F * cntN bb nf L F ≤ 40 * 40 := Nat.mul_le_mul hall hall
  have key : ∀ (m n : Nat), n + m = nn → at_X10_nextBy_18 G (N + 2) (nI L) (nI F) (nI (cntN bb nf L F)) (figI (nxS bb nf L F n).1) (nI (nxS bb nf L F n).2) (nI n) f s := by
    intro m
    induction m with
    | zero =>
      intro n hn
      refine sg_X10_nextBy_18 _ _ _ _ _ _ ?_
      rw [hs.2.1]
      refine pk_le nn n (fun _ => ?_) (fun q => absurd q (by omega))
      rw [show n = nn from by omega]
      exact h
    | succ m ih =>
      intro n hn
      have hle := nxS_le bb nf L F n
      refine sg_X10_nextBy_18 _ _ _ _ _ _ ?_
      rw [hs.2.1, nI_1, bI_1shl (by omega), bI_or, bI_or]
      refine pk_le nn n (fun q => absurd q (by omega)) (fun _ => sp_hasM (by omega) (by omega) ?_)
      have hi := ih (n + 1) (by omega)
      rw [nxS] at hi
      unfold bitN
      cases hb : L.testBit n with
      | true =>
        rw [hb] at hi
        exact ⟨fun _ => hi, fun q => absurd q (by decide)⟩
      | false =>
        rw [hb] at hi
        simp only [Bool.false_eq_true, if_false] at hi
        have hc := @cnt_bad_le bb nf nn L F n hL hb
        obtain ⟨hL2, hF2⟩ := (okL_bad hL (show n < nn by omega)).lt hnn
        refine ⟨fun q => absurd rfl q, fun _ => sp_fitM hnf hbb hL2 hF2 hs ?_⟩
        generalize hcv : cntN bb nf (L ||| 2 ^ n) (F ||| 2 ^ n) = c at hi hc
        have q1 : c * c ≤ 40 * 40 := Nat.mul_le_mul (by omega) (by omega)
        have q2 : (cntN bb nf L F - c) * (cntN bb nf L F - c) ≤ 40 * 40 := Nat.mul_le_mul (by omega) (by omega)
        rw [pk_sub hc, pk_mul, pk_mul, nI_add]
        refine pk_le (nxS bb nf L F n).2 (c * c + (cntN bb nf L F - c) * (cntN bb nf L F - c)) (fun q => pk_le (nxS bb nf L F n).2 (c * c + (cntN bb nf L F - c) * (cntN bb nf L F - c)) (fun _ => ?_) (fun q' => absurd q' (by omega))) (fun q => pk_le (nxS bb nf L F n).2 (c * c + (cntN bb nf L F - c) * (cntN bb nf L F - c)) (fun q' => absurd q' (by omega)) (fun _ => ?_))
        · rw [if_neg (by omega)] at hi
          exact hi
        · rw [if_pos q] at hi
          exact hi
  refine sg_X10_nextBy _ _ (sp_fitM hnf hbb hL12 hF12 hs ?_)
  rw [pk_mul]
  exact key nn 0 (by omega)
theorem sp_layR {f : gp_S → Prop} {i : Nat} (hnf : nf ≤ 40) (hnn : nn ≤ 12) (hbb : ∀ i, i < nf → bb i < 2 ^ 12) (hL : okL nn L F) (hs : sM bb nf nn s) (h9 : s.1 34 9 = nI L) (h10 : s.1 34 10 = nI F) (hi : i < nf) (h : ∀ s', fm pLR s s' → s'.1 34 30 = nI (restN bb nf nn L F i) → s'.1 34 31 = nI (stepsN bb nf nn L F i) → f s') : cl_X10_layRest G (N + 3) (nI i) f s := by
  have key : ∀ (d k L1 F1 : Nat) (s1 : gp_S), unL nn L1 = d → okL nn L1 F1 → fm pLR s s1 → s1.1 34 31 = nI k → restN bb nf nn L1 F1 i = restN bb nf nn L F i → k + stepsN bb nf nn L1 F1 i = stepsN bb nf nn L F i → at_X10_layRest_23 G (N + 3) (nI i) (nI L1) (nI F1) (figI (nxN bb nf nn L1 F1)) f s1 := by
    intro d
    induction d with
    | zero =>
      intro k L1 F1 s1 hd hok hf h31 hr hst
      obtain ⟨hL2, hF2⟩ := hok.lt hnn
      have hnone := @unL_none bb nf nn L1 F1 hd
      refine sg_X10_layRest_23 _ _ _ _ ?_
      rw [hnone]
      refine ⟨fun _ => sp_fitM hnf hbb hL2 hF2 (hs.fm hf) (h _ (hf.ui 34 30 _) ?_ ?_), fun q => absurd rfl q⟩
      · rw [ui_at, if_pos ⟨rfl, rfl⟩, ← hr, restN, lrN_none hnone]
      · rw [ui_at, if_neg (by omega), h31, ← hst, stepsN, lrN_none hnone]
        rfl
    | succ d ih =>
      intro k L1 F1 s1 hd hok hf h31 hr hst
      obtain ⟨hL2, hF2⟩ := hok.lt hnn
      refine sg_X10_layRest_23 _ _ _ _ ?_
      cases hx : nxN bb nf nn L1 F1 with
      | none =>
        refine ⟨fun _ => sp_fitM hnf hbb hL2 hF2 (hs.fm hf) (h _ (hf.ui 34 30 _) ?_ ?_), fun q => absurd rfl q⟩
        · rw [ui_at, if_pos ⟨rfl, rfl⟩, ← hr, restN, lrN_none hx]
        · rw [ui_at, if_neg (by omega), h31, ← hst, stepsN, lrN_none hx]
          rfl
      | some n =>
        obtain ⟨hn1, hn2⟩ := nxS_some hx
        have hu := unL_or hn1 hn2
        refine ⟨fun q => absurd q (nI_m1 n (by omega)), fun _ => ⟨vp_in_nI (by omega) (by omega), ?_⟩⟩
        rw [nI_clamp (by omega), (hs.fm hf).2.2 i hi, show figI (some n) = nI n from rfl, bI_1shl (by omega), bI_or, bI_and, bI_or, h31, nI_1]
        have hok2 : okL nn (L1 ||| 2 ^ n) (F1 ||| (bb i &&& 2 ^ n)) := by
          rw [and_2b]
          cases (bb i).testBit n with
          | true => exact okL_bad hok hn1
          | false => simp only [Bool.false_eq_true, if_false, Nat.or_zero]; exact okL_good hok hn1
        have hf2 : fm pLR s (gp_ui s1 34 31 (nI (k + 1))) := hf.ui 34 31 _
        refine sp_nextM hnf hnn hbb hok2 (hs.fm hf2) ?_
        refine ih (k + 1) _ _ _ (by omega) hok2 hf2 (by rw [ui_at, if_pos ⟨rfl, rfl⟩]) ?_ ?_
        · rw [← hr, restN, restN, lrN_some hx]
        · rw [← hst, stepsN, stepsN, lrN_some hx]
          show _ = k + (_ + 1)
          omega
  refine sg_X10_layRest _ ?_
  rw [h9, h10]
  have hf0 : fm pLR s (gp_ui s 34 31 0) := fm_rfl.ui 34 31 _
  refine sp_nextM hnf hnn hbb hL (hs.fm hf0) ?_
  exact key (unL nn L) 0 L F _ rfl hL hf0 (by rw [ui_at, if_pos ⟨rfl, rfl⟩]; rfl) rfl (by omega)
theorem sp_layRs {f : gp_S → Prop} (hnf : nf ≤ 40) (hnn : nn ≤ 12) (hbb : ∀ i, i < nf → bb i < 2 ^ 12) (hL : okL nn L F) (hs : sM bb nf nn s) (h9 : s.1 34 9 = nI L) (h10 : s.1 34 10 = nI F) (h : ∀ s', fm pLS s s' → s'.1 34 32 = nI (foN (gMax (stepsN bb nf nn L F)) (fit bb L F) nf) → s'.1 34 33 = nI (foN (gSum (stepsN bb nf nn L F)) (fit bb L F) nf) → s'.1 34 34 = nI (foN (gMax (restN bb nf nn L F)) (fit bb L F) nf) → f s') : cl_X10_layRests G (N + 4) f s := by
  obtain ⟨hL12, hF12⟩ := hL.lt hnn
  have hb1 : ∀ i, i ≤ nf → foN (gMax (stepsN bb nf nn L F)) (fit bb L F) i ≤ 480 := fun i hi => Nat.le_trans (foN_bound (c := 12) (gMax_le (fun i => Nat.le_trans (stepsN_le i) hnn)) i) (by omega)
  have hb2 : ∀ i, i ≤ nf → foN (gMax (restN bb nf nn L F)) (fit bb L F) i ≤ 1600 := fun i hi => Nat.le_trans (foN_bound (c := 40) (gMax_le (fun i => Nat.le_trans (restN_le i) hnf)) i) (by omega)
  have key : ∀ (m i : Nat) (s1 : gp_S), i + m = nf → fm pLS s s1 → s1.1 34 32 = nI (foN (gMax (stepsN bb nf nn L F)) (fit bb L F) i) → s1.1 34 33 = nI (foN (gSum (stepsN bb nf nn L F)) (fit bb L F) i) → s1.1 34 34 = nI (foN (gMax (restN bb nf nn L F)) (fit bb L F) i) → at_X10_layRests_17 G (N + 4) (nI i) f s1 := by
    intro m
    induction m with
    | zero =>
      intro i s1 hi hf e1 e2 e3
      refine sg_X10_layRests_17 _ ?_
      rw [(hs.fm hf).1]
      refine pk_le nf i (fun _ => h s1 hf ?_ ?_ ?_) (fun q => absurd q (by omega))
      · rw [e1, show i = nf from by omega]
      · rw [e2, show i = nf from by omega]
      · rw [e3, show i = nf from by omega]
    | succ m ih =>
      intro i s1 hi hf e1 e2 e3
      refine sg_X10_layRests_17 _ ?_
      rw [(hs.fm hf).1, hf.i 34 9, hf.i 34 10, h9, h10, nI_1]
      refine pk_le nf i (fun q => absurd q (by omega)) (fun _ => sp_fitsM hnf hbb hL12 hF12 (hs.fm hf) (by omega) ?_)
      cases hp : fit bb L F i with
      | false =>
        refine ⟨fun _ => ih (i + 1) s1 (by omega) hf ?_ ?_ ?_, fun q => absurd rfl q⟩
        · rw [e1, foN, hp]; rfl
        · rw [e2, foN, hp]; rfl
        · rw [e3, foN, hp]; rfl
      | true =>
        refine ⟨fun q => absurd q (by decide), fun _ => ?_⟩
        refine sp_layR hnf hnn hbb hL (hs.fm hf) ((hf.i 34 9).trans h9) ((hf.i 34 10).trans h10) (by omega) (fun s3 hf3 q30 q31 => ?_)
        have hf3' : fm pLS s s3 := hf.trans (hf3.mono (sub_bool (by intro a k; simp only [pLR, pLS, Bool.or_eq_true, beq_iff_eq, Bool.and_eq_true]; omega)))
        rw [q30, q31, hf3.i 34 32, hf3.i 34 33, hf3.i 34 34, e1, e2, e3, nI_add]
        have hst := @stepsN_le nf nn L F bb i
        have hrs := @restN_le nf nn L F bb i
        have b1 := hb1 i (by omega)
        have b2 := hb2 i (by omega)
        have go : ∀ (x y z : Nat), x = gMax (stepsN bb nf nn L F) (foN (gMax (stepsN bb nf nn L F)) (fit bb L F) i) i → y = gSum (stepsN bb nf nn L F) (foN (gSum (stepsN bb nf nn L F)) (fit bb L F) i) i → z = gMax (restN bb nf nn L F) (foN (gMax (restN bb nf nn L F)) (fit bb L F) i) i → at_X10_layRests_17 G (N + 4) (nI (i + 1)) f (gp_ui (gp_ui (gp_ui s3 34 32 (nI x)) 34 33 (nI y)) 34 34 (nI z)) := by
          intro x y z hx hy hz
          refine ih (i + 1) _ (by omega) (((hf3'.ui 34 32 _).ui 34 33 _).ui 34 34 _) ?_ ?_ ?_
          · simp only [ui_at, hx]; rw [foN, hp]; simp
          · simp only [ui_at, hy]; rw [foN, hp]; simp
          · simp only [ui_at, hz]; rw [foN, hp]; simp
        refine pk_le (stepsN bb nf nn L F i) (foN (gMax (stepsN bb nf nn L F)) (fit bb L F) i) (fun c1 => pk_le (restN bb nf nn L F i) (foN (gMax (restN bb nf nn L F)) (fit bb L F) i) (fun c2 => go _ _ _ ?_ rfl ?_) (fun c2 => go _ _ _ ?_ rfl ?_)) (fun c1 => pk_le (restN bb nf nn L F i) (foN (gMax (restN bb nf nn L F)) (fit bb L F) i) (fun c2 => go _ _ _ ?_ rfl ?_) (fun c2 => go _ _ _ ?_ rfl ?_)) <;> (rw [show ∀ v a i, gMax v a i = max a (v i) from fun _ _ _ => rfl]; omega)
  refine sg_X10_layRests (key nf 0 _ (by omega) (((fm_rfl.ui 34 32 _).ui 34 33 _).ui 34 34 _) ?_ ?_ ?_)
  · simp [ui_at]; rfl
  · simp [ui_at]; rfl
  · simp [ui_at]; rfl
theorem sp_onesM {f : Int32 → gp_S → Prop} (hL : L < 2 ^ 12) (h : f (nI (fb_ct (fun n => L.testBit n) 12)) s) : cl_X10_ones G N (nI L) f s := by
  have key : ∀ (m n : Nat), n + m = 12 → at_X10_ones_4 G N (nI L) (nI (fb_ct (fun n => L.testBit n) n)) (nI n) f s := by
    intro m
    induction m with
    | zero =>
      intro n hn
      exact sg_X10_ones_4 _ _ _ (pk_le 12 n (fun _ => by rw [show n = 12 from by omega]; exact h) (fun q => absurd q (by omega)))
    | succ m ih =>
      intro n hn
      refine sg_X10_ones_4 _ _ _ (pk_le 12 n (fun q => absurd q (by omega)) (fun _ => ?_))
      rw [bI_bit (by omega) (by omega), nI_add, nI_1]
      have := ih (n + 1) (by omega)
      rw [fb_ct_succ] at this
      exact this
  exact sg_X10_ones _ (key 12 0 rfl)
/-- the place of a suspect -/
theorem sp_atM {f : Int32 → gp_S → Prop} {x : Int32} (hnf : nf ≤ 40) (hnn : nn ≤ 12) (hbb : ∀ i, i < nf → bb i < 2 ^ 12) (hL : okL nn L F) (hs : sM bb nf nn s) (h9 : s.1 34 9 = nI L) (h10 : s.1 34 10 = nI F) (h1 : ∀ i, i < nf → fit bb L F i = true → x = nI (fb_ct (fit bb L F) i) → f (nI i) s) (h2 : (∀ j, j < cntN bb nf L F → ¬ x = nI j) → f (-1) s) : cl_X10_suspectAt G (N + 1) x f s := by
  obtain ⟨hL12, hF12⟩ := hL.lt hnn
  have hct : cntN bb nf L F ≤ nf := fb_ct_le _ _
  refine sg_X10_suspectAt _ ?_
  by_cases hx : x < 0
  · refine sg_X10_suspectAt_4 _ _ _ ?_
    have hneg : ∀ j, j < cntN bb nf L F → ¬ x = nI j := fun j hj e => by rw [e] at hx; exact absurd hx (nI_pos (by omega))
    exact ⟨fun _ => h2 hneg, fun _ => ⟨fun _ => h2 hneg, fun q => absurd hx q⟩⟩
  · obtain ⟨k, hk, rfl⟩ := nI_of hx
    have key : ∀ (m i : Nat), i + m = nf → fb_ct (fit bb L F) i ≤ k → at_X10_suspectAt_4 G (N + 1) (nI k) (nI (k - fb_ct (fit bb L F) i)) (nI i) f s := by
      intro m
      induction m with
      | zero =>
        intro i hi hc
        refine sg_X10_suspectAt_4 _ _ _ ?_
        rw [hs.1]
        refine pk_le nf i (fun _ => h2 (fun j hj e => ?_)) (fun q => absurd q (by omega))
        have := nI_inj hk (by omega) e
        unfold cntN at hj
        rw [show nf = i from by omega] at hj
        omega
      | succ m ih =>
        intro i hi hc
        refine sg_X10_suspectAt_4 _ _ _ ?_
        rw [hs.1, h9, h10, nI_1]
        refine pk_le nf i (fun q => absurd q (by omega)) (fun _ => ⟨fun q => absurd q (nI_pos (by omega)), fun _ => sp_fitsM hnf hbb hL12 hF12 hs (by omega) ?_⟩)
        have hsu := fb_ct_succ (fit bb L F) i
        cases hp : fit bb L F i with
        | false =>
          rw [hp] at hsu
          simp at hsu
          have := ih (i + 1) (by omega) (by omega)
          rw [hsu] at this
          exact ⟨fun _ => this, fun q => absurd rfl q⟩
        | true =>
          rw [hp] at hsu
          simp at hsu
          refine ⟨fun q => absurd q (by decide), fun _ => pk_ne (k - fb_ct (fit bb L F) i) 0 (fun e => ?_) (fun e => h1 i (by omega) hp (by congr 1; omega))⟩
          rw [sb_m1 (by omega)]
          have := ih (i + 1) (by omega) (by omega)
          rw [hsu, show k - (fb_ct (fit bb L F) i + 1) = k - fb_ct (fit bb L F) i - 1 from by omega] at this
          exact this
    have := key nf 0 (by omega) (Nat.zero_le _)
    exact this
end UM
