theorem addL {c b : Nat} {y : Int32} (hy : y = nI b := by rfl) : y + nI c = nI (b + c) := by subst hy; exact nI_add b c
def sX (B : gB) (T : gT) (h : Nat) (s : gp_S) : Prop := bX B s ∧ tX T s ∧ s.1 11 4 = nI h
theorem bX.fr {B : gB} {s s' : gp_S} {l : List Nat} (hb : bX B s) (hf : fr l s s') (h3 : 3 ∉ l := by decide) (h4 : 4 ∉ l := by decide) (h5 : 5 ∉ l := by decide) : bX B s' := by
  unfold bX
  rw [hf.i 3 h3, hf.i 4 h4, hf.i 5 h5]
  exact hb
theorem tX.fr {T : gT} {s s' : gp_S} {l : List Nat} (hb : tX T s) (hf : fr l s s') (h3 : 9 ∉ l := by decide) (h4 : 10 ∉ l := by decide) : tX T s' := by
  unfold tX
  rw [hf.i 9 h3, hf.i 10 h4]
  exact hb
theorem sX.fr {B : gB} {T : gT} {h : Nat} {s s' : gp_S} {l : List Nat} (hb : sX B T h s) (hf : fr l s s') (h3 : 3 ∉ l := by decide) (h4 : 4 ∉ l := by decide) (h5 : 5 ∉ l := by decide) (h9 : 9 ∉ l := by decide) (h10 : 10 ∉ l := by decide) (h11 : 11 ∉ l := by decide) : sX B T h s' := ⟨hb.1.fr hf h3 h4 h5, hb.2.1.fr hf h9 h10, by rw [hf.i 11 h11]; exact hb.2.2⟩
theorem okH_lt {B : gB} {h : Nat} (hB : okB B) (hh : okH B h) : h < 400 := by
  have := hB.le
  rcases hh with e | ⟨n, h1, e⟩ | ⟨n, h1, e⟩ | ⟨n, p, h1, h2, e⟩
  · omega
  · omega
  · omega
  · have := @pins_le (bK B n); omega
section SX
variable {G : gp_G} {N : Nat} {B : gB} {T : gT} {h t n p : Nat} {s : gp_S} {v a : Nat → Nat}
theorem sp_hasX {f : Int32 → gp_S → Prop} {x : Int32} (hB : okB B) (hb : bX B s) (h1 : ∀ n, n < bN B → x = nI n → f 1 s) (h2 : (∀ n, n < bN B → ¬ x = nI n) → f 0 s) : cl_X0_has_o3 G N x f s := by
  have h12 := hB.le
  refine sg_X0_has_o3 _ ?_
  rw [hb.2.1]
  rcases nI_cases x (bN B) (by omega) with ⟨j, hj, rfl⟩ | q | q
  · exact ⟨fun q => absurd q (nI_pos (by omega)), fun _ => ⟨fun q => absurd q (nI_ge hj (by omega)), fun _ => h1 j hj rfl⟩⟩
  · have hn : ∀ n, n < bN B → ¬ x = nI n := fun n hn e => by rw [e] at q; exact absurd q (nI_pos (by omega))
    exact ⟨fun _ => h2 hn, fun z => absurd q z⟩
  · have hn : ∀ n, n < bN B → ¬ x = nI n := fun n hn e => by rw [e] at q; exact absurd q (nI_ge hn (by omega))
    exact ⟨fun _ => h2 hn, fun _ => ⟨fun _ => h2 hn, fun z => absurd q z⟩⟩
theorem sp_pinX12 {f : Int32 → gp_S → Prop} {y : Int32} (hB : okB B) (hh : h < 400) (hs : sX B T h s) (hv : arr s 12 12 v) (hn : n < bN B) (hp : p < pinsN (bK B n)) (h1 : f (nI (pvN B h v n p)) s) (hy : y = nI p := by rfl) : cl_X5_pinValue_o12 G (N + 1) (nI n) y f s := by
  subst hy
  have h12 := hB.le
  have hp2 := @pins_le (bK B n)
  have hd := (hB.2.2.2.2.2 n p hn hp).1
  refine sg_X5_pinValue_o12 _ _ ?_
  rw [hs.2.2, mulI (b := 2), addL (y := 300) (b := 300), nI_add, nI_add]
  refine pk_ne h (300 + 2 * n + p) (fun e => ?_) (fun e => ?_)
  · refine ⟨vp_in_nI (by omega) (by omega), ?_⟩
    rw [nI_clamp (by omega), hs.1.2.2.2 n p hn hp]
    refine sp_hasX hB hs.1 (fun _ _ _ => ⟨fun z => absurd z (by decide), fun _ => ⟨vp_in_nI (by omega) (by omega), ?_⟩⟩) (fun q => absurd rfl (q _ hd))
    rw [nI_clamp (by omega), hv _ (by omega)]
    unfold pvN at h1
    rwa [if_neg e] at h1
  · unfold pvN at h1
    rwa [if_pos e] at h1
theorem sp_pinX13 {f : Int32 → gp_S → Prop} {y : Int32} (hB : okB B) (hh : h < 400) (hs : sX B T h s) (hv : arr s 13 12 v) (hn : n < bN B) (hp : p < pinsN (bK B n)) (h1 : f (nI (pvN B h v n p)) s) (hy : y = nI p := by rfl) : cl_X5_pinValue_o13 G (N + 1) (nI n) y f s := by
  subst hy
  have h12 := hB.le
  have hp2 := @pins_le (bK B n)
  have hd := (hB.2.2.2.2.2 n p hn hp).1
  refine sg_X5_pinValue_o13 _ _ ?_
  rw [hs.2.2, mulI (b := 2), addL (y := 300) (b := 300), nI_add, nI_add]
  refine pk_ne h (300 + 2 * n + p) (fun e => ?_) (fun e => ?_)
  · refine ⟨vp_in_nI (by omega) (by omega), ?_⟩
    rw [nI_clamp (by omega), hs.1.2.2.2 n p hn hp]
    refine sp_hasX hB hs.1 (fun _ _ _ => ⟨fun z => absurd z (by decide), fun _ => ⟨vp_in_nI (by omega) (by omega), ?_⟩⟩) (fun q => absurd rfl (q _ hd))
    rw [nI_clamp (by omega), hv _ (by omega)]
    unfold pvN at h1
    rwa [if_neg e] at h1
  · unfold pvN at h1
    rwa [if_pos e] at h1
theorem sp_valX {f : Int32 → gp_S → Prop} (hB : okB B) (hT : okT T) (hh : h < 400) (hs : sX B T h s) (hv : arr s 12 12 v) (ha : arr s 13 12 a) (hok : okV v) (hn : n < bN B) (ht : t < T.1) (h1 : f (nI (nvN B T h t a v n)) s) : cl_X5_value G (N + 2) (nI n) (nI t) f s := by
  have h12 := hB.le
  have hT1 := hT.1
  have h5 := hB.2.2.2.1 n hn
  refine sg_X5_value _ _ ?_
  rw [hs.2.2, mulI (b := 2), addL (y := 100) (b := 100), addL (y := 200) (b := 200), nI_clamp (by omega), hs.1.2.2.1 n hn]
  unfold nvN at h1
  refine pk_ne h (100 + 2 * n) (fun e1 => pk_ne h (200 + 2 * n) (fun e2 => ?_) (fun e2 => ?_)) (fun e1 => ?_)
  · rw [if_neg e1, if_neg e2] at h1
    refine ⟨vp_in_nI (by omega) (by omega), fun q => ?_, fun q => ?_, fun q => ?_, fun q => ?_, fun q => ?_, fun q0 q1 q2 q3 q4 => ?_⟩
    · have e := nI_inj (b := 0) (by omega) (by omega) q
      rw [if_pos e] at h1
      refine sg_X6_bit _ _ ⟨vp_in_nI (by omega) (by omega), ?_⟩
      rw [nI_clamp (by omega), hs.2.1.2 t ht, bI_bit (by have := hT.2 t ht; omega) (by omega)]
      exact h1
    · have e := nI_inj (b := 1) (by omega) (by omega) q
      have hp := pinsN_2 (k := bK B n) (by omega) (by omega)
      rw [if_neg (by omega), if_pos e] at h1
      refine sp_pinX12 (p := 0) hB hh hs hv hn (by omega) (sp_pinX12 (p := 1) hB hh hs hv hn (by omega) ?_)
      rw [bI_and]
      exact h1
    · have e := nI_inj (b := 2) (by omega) (by omega) q
      have hp := pinsN_2 (k := bK B n) (by omega) (by omega)
      rw [if_neg (by omega), if_neg (by omega), if_pos e] at h1
      refine sp_pinX12 (p := 0) hB hh hs hv hn (by omega) (sp_pinX12 (p := 1) hB hh hs hv hn (by omega) ?_)
      rw [bI_or]
      exact h1
    · have e := nI_inj (b := 3) (by omega) (by omega) q
      have hp := pinsN_2 (k := bK B n) (by omega) (by omega)
      rw [if_neg (by omega), if_neg (by omega), if_neg (by omega), if_pos e] at h1
      refine sp_pinX12 (p := 0) hB hh hs hv hn (by omega) (sp_pinX12 (p := 1) hB hh hs hv hn (by omega) ?_)
      rw [fb_xorI]
      exact h1
    · have e := nI_inj (b := 4) (by omega) (by omega) q
      have hp := pinsN_1 (k := bK B n) (by omega)
      rw [if_neg (by omega), if_neg (by omega), if_neg (by omega), if_neg (by omega), if_pos e] at h1
      refine sp_pinX12 (p := 0) hB hh hs hv hn (by omega) ?_
      rw [show (1 : Int32) = nI 1 from rfl, pk_sub (pvN_le hB hok hn (by omega))]
      exact h1
    · have a0 : bK B n ≠ 0 := fun e => q0 (by rw [e]; rfl)
      have a1 : bK B n ≠ 1 := fun e => q1 (by rw [e]; rfl)
      have a2 : bK B n ≠ 2 := fun e => q2 (by rw [e]; rfl)
      have a3 : bK B n ≠ 3 := fun e => q3 (by rw [e]; rfl)
      have a4 : bK B n ≠ 4 := fun e => q4 (by rw [e]; rfl)
      rw [if_neg a0, if_neg a1, if_neg a2, if_neg a3, if_neg a4] at h1
      refine pk_ne t 0 (fun e => ?_) (fun e => ?_)
      · rw [if_neg e] at h1
        exact sp_pinX13 (p := 0) hB hh hs ha hn (pinsN_k a0) h1
      · rw [if_pos e] at h1
        exact h1
  · rw [if_neg e1, if_pos e2] at h1
    exact h1
  · rw [if_pos e1] at h1
    exact h1
theorem sp_setX {f : gp_S → Prop} {d : Bool} (hB : okB B) (hT : okT T) (hh : h < 400) (hs : sX B T h s) (hv : arr s 12 12 v) (ha : arr s 13 12 a) (hok : okV v) (hoa : okV a) (ht : t < T.1) (h1 : ∀ s', fr [12] s s' → arr s' 12 12 (psN d B T h t a (bN B) v) → f s') {y : Int32} (hy : y = if d then 1 else 0 := by rfl) : cl_X5_setNodes G (N + 3) y (nI t) f s := by
  have h12 := hB.le
  have key : ∀ (m k : Nat) (s1 : gp_S), k + m = bN B → fr [12] s s1 → arr s1 12 12 (psN d B T h t a k v) → at_X5_setNodes_2 G (N + 3) y (nI t) (nI k) f s1 := by
    intro m
    induction m with
    | zero =>
      intro k s1 hk hf hv1
      refine sg_X5_setNodes_2 _ _ _ ?_
      rw [(hs.fr hf).1.2.1]
      exact pk_le (bN B) k (fun _ => h1 s1 hf (by rw [show bN B = k from by omega]; exact hv1)) (fun q => absurd q (by omega))
    | succ m ih =>
      intro k s1 hk hf hv1
      have hs1 := hs.fr hf
      refine sg_X5_setNodes_2 _ _ _ ?_
      rw [hs1.1.2.1]
      refine pk_le (bN B) k (fun q => absurd q (by omega)) (fun _ => ⟨vp_in_nI (by omega) (by omega), ?_⟩)
      rw [nI_clamp (by omega), hs1.1.2.2.1 k (by omega), nI_1]
      have h5 := hB.2.2.2.1 k (by omega)
      have hgo : ∀ (z : Nat → Nat), psN d B T h t a (k + 1) v = z → ∀ s2, fr [12] s s2 → arr s2 12 12 z → at_X5_setNodes_2 G (N + 3) y (nI t) (nI (k + 1)) f s2 := by
        intro z hz s2 hf2 hv2
        subst hz
        exact ih (k + 1) s2 (by omega) hf2 hv2
      have hsk : ¬ ((bK B k = 5) = (d = true)) → at_X5_setNodes_2 G (N + 3) y (nI t) (nI (k + 1)) f s1 := fun hne => hgo _ (by rw [psN, if_neg hne]) s1 hf hv1
      have hdo : ((bK B k = 5) = (d = true)) → cl_X5_value G (N + 2) (nI k) (nI t) (fun r s2 => vp_in (nI k) 12 ∧ at_X5_setNodes_2 G (N + 3) y (nI t) (nI (k + 1)) f (gp_ui s2 12 k r)) s1 := by
        intro he
        refine sp_valX hB hT hh hs1 hv1 (ha.fr hf) (psN_ok hB hoa (by omega) hok) (by omega) ht ⟨vp_in_nI (by omega) (by omega), ?_⟩
        exact hgo _ (by rw [psN, if_pos he]) _ (hf.ui k _) (hv1.put k _)
      refine pk_ne (bK B k) 5 (fun e => ?_) (fun e => ?_)
      · cases d
        · subst hy
          exact ⟨fun q => absurd rfl q, fun _ => hdo (by simp [e])⟩
        · subst hy
          exact ⟨fun _ => hsk (by simp [e]), fun q => absurd q (by decide)⟩
      · cases d
        · subst hy
          exact ⟨fun _ => hsk (by simp [e]), fun q => absurd q (by decide)⟩
        · subst hy
          exact ⟨fun q => absurd rfl q, fun _ => hdo (by simp [e])⟩
  exact sg_X5_setNodes _ _ (key (bN B) 0 s (by omega) fr_rfl hv)
end SX
section SX14
variable {G : gp_G} {N : Nat} {B : gB} {T : gT} {h t n : Nat} {s : gp_S} {v a : Nat → Nat}
theorem sp_addX14 {f : gp_S → Prop} {b H m : Nat} (hn : n < 12) (ht : t < 16) (hb : b ≤ 1) (hH : s.1 15 n = nI H) (hm : s.1 16 n = nI m) (hm2 : m < 256) (h1 : f (gp_ui (gp_ui s 15 n (nI (H ||| b * 2 ^ t))) 16 n (nI (mst m b)))) : cl_X2_add_o14 G N (nI t) (nI n) (nI b) f s := by
  have h2 : 2 ^ t ≤ 2 ^ 15 := Nat.pow_le_pow_right (by omega) (by omega)
  have h3 : b * 2 ^ t ≤ 1 * 2 ^ t := Nat.mul_le_mul_right _ hb
  have hin : vp_in (nI n) 12 := vp_in_nI hn (by omega)
  refine sg_X2_add_o14 _ _ _ ⟨hin, hin, hin, ?_⟩
  rw [nI_clamp (by omega), hH, hm, bI_shl b (by omega) (by omega), bI_or]
  have e := mst_I hm2 hb
  refine pk_lt m 128 (fun q => ⟨hin, ?_⟩) (fun q => ⟨hin, ?_⟩)
  · rw [if_pos q] at e
    rw [e]
    exact h1
  · rw [if_neg (by omega)] at e
    rw [e]
    exact h1
theorem sp_runX14 {f : gp_S → Prop} (hB : okB B) (hT : okT T) (hh : h < 400) (hb : bX B s) (ht : tX T s) (hv : arr s 12 12 v) (hok : okV v) (h1 : ∀ s' w, fr [11, 12, 13, 15, 16] s s' → s'.1 11 4 = nI h → arr s' 12 12 w → okV w → (∀ n, n < bN B → s'.1 15 n = nI (hisN B T h T.1 n) ∧ s'.1 16 n = nI (mrkN B T h T.1 n)) → (∀ n, bN B ≤ n → n < 12 → s'.1 15 n = 0 ∧ s'.1 16 n = 0) → f s') : cl_X5_run_o14 G (N + 4) (nI h) f s := by
  have h12 := hB.le
  have hT1 := hT.1
  refine sg_X5_run_o14 _ (sg_X2_clear_o14 (sp_fill_15 (fun s1 hf1 hv1 => sp_fill_16 (fun s2 hf2 hv2 => ?_))))
  have hF : fr [11, 12, 13, 15, 16] s s2 := ((fr_rfl.ui (a := 11) 4 (nI h)).trans (hf1.mono (by decide))).trans (hf2.mono (by decide))
  have key : ∀ (d t : Nat) (s1 : gp_S) (w : Nat → Nat), t + d = T.1 → fr [11, 12, 13, 15, 16] s s1 → s1.1 11 4 = nI h → arr s1 12 12 w → okV w → (t ≠ 0 → agr (bN B) w (runN B T h (fun _ => 0) t)) → (∀ n, n < bN B → s1.1 15 n = nI (hisN B T h t n) ∧ s1.1 16 n = nI (mrkN B T h t n)) → (∀ n, bN B ≤ n → n < 12 → s1.1 15 n = 0 ∧ s1.1 16 n = 0) → at_X5_run_o14_11 G (N + 4) (nI h) (nI t) f s1 := by
    intro d
    induction d with
    | zero =>
      intro t s1 w htd hf h11 hw hw1 hag hn1 hn2
      refine sg_X5_run_o14_11 _ _ ?_
      rw [(ht.fr hf).1]
      have e : T.1 = t := by omega
      exact pk_le T.1 t (fun _ => h1 s1 w hf h11 hw hw1 (by rw [e]; exact hn1) hn2) (fun q => absurd q (by omega))
    | succ d ih =>
      intro t s1 w htd hf h11 hw hw1 hag hn1 hn2
      refine sg_X5_run_o14_11 _ _ ?_
      rw [(ht.fr hf).1]
      refine pk_le T.1 t (fun q => absurd q (by omega)) (fun _ => ?_)
      have hs3 : sX B T h (gp_ua s1 13 (va_cpy (s1.1 12) (s1.1 13) 0 0 12)) := by
        have hfa : fr [13] s1 (gp_ua s1 13 (va_cpy (s1.1 12) (s1.1 13) 0 0 12)) := fr_rfl.ua (a := 13) _
        exact sX.fr (l := [13]) ⟨hb.fr hf, ht.fr hf, h11⟩ hfa
      have hw3 : arr (gp_ua s1 13 (va_cpy (s1.1 12) (s1.1 13) 0 0 12)) 12 12 w := fun k hk => by simp only [gp_ua]; exact hw k hk
      have ha3 : arr (gp_ua s1 13 (va_cpy (s1.1 12) (s1.1 13) 0 0 12)) 13 12 w := fun k hk => by
        simp only [gp_ua, if_true]
        rw [pk_cpy_in (by omega) (by omega)]
        simp only [Nat.zero_add, Nat.sub_zero]
        exact hw k hk
      refine sp_setX (d := true) hB hT hh hs3 hw3 ha3 hw1 hw1 (by omega) (fun s4 hf4 hw4 => ?_)
      refine sp_setX (d := false) hB hT hh (hs3.fr hf4) hw4 (ha3.fr hf4) (psN_ok hB hw1 (Nat.le_refl _) hw1) hw1 (by omega) (fun s5 hf5 hw5 => ?_)
      have hw5 : arr s5 12 12 (tickN B T h t w) := hw5
      have hok5 := tickN_ok (T := T) (h := h) (t := t) hB hw1
      have hag5 : agr (bN B) (tickN B T h t w) (runN B T h (fun _ => 0) (t + 1)) := tickN_agr hB hag
      have hf15 : fr [12, 13] s1 s5 := ((fr_rfl.ua (a := 13) _).trans (hf4.mono (by decide))).trans (hf5.mono (by decide))
      have inner : ∀ (e n : Nat) (s6 : gp_S), n + e = bN B → fr [15, 16] s5 s6 → (∀ j, j < bN B → s6.1 15 j = nI (hisN B T h (if j < n then t + 1 else t) j) ∧ s6.1 16 j = nI (mrkN B T h (if j < n then t + 1 else t) j)) → (∀ j, bN B ≤ j → j < 12 → s6.1 15 j = 0 ∧ s6.1 16 j = 0) → at_X5_run_o14_52 G (N + 4) (nI h) (nI t) (nI n) f s6 := by
        intro e
        induction e with
        | zero =>
          intro n s6 hne hf6 hj1 hj2
          have hfa : fr [11, 12, 13, 15, 16] s s6 := (hf.trans (hf15.mono (by decide))).trans (hf6.mono (by decide))
          refine sg_X5_run_o14_52 _ _ _ ?_
          rw [(hb.fr hfa).2.1, nI_1 t, nI_1 n]
          refine pk_le (bN B) n (fun _ => ?_) (fun q => absurd q (by omega))
          refine ih (t + 1) s6 (tickN B T h t w) (by omega) hfa ?_ (hw5.fr hf6) hok5 (fun _ => hag5) (fun j hj => ?_) hj2
          · rw [hf6.i 11, hf15.i 11]; exact h11
          · have := hj1 j hj
            rwa [if_pos (by omega)] at this
        | succ e ihe =>
          intro n s6 hne hf6 hj1 hj2
          have hfa : fr [11, 12, 13, 15, 16] s s6 := (hf.trans (hf15.mono (by decide))).trans (hf6.mono (by decide))
          refine sg_X5_run_o14_52 _ _ _ ?_
          rw [(hb.fr hfa).2.1, nI_1 t, nI_1 n]
          refine pk_le (bN B) n (fun q => absurd q (by omega)) (fun _ => ⟨vp_in_nI (by omega) (by omega), ?_⟩)
          rw [nI_clamp (by omega), (hw5.fr hf6) n (by omega)]
          have hj := hj1 n (by omega)
          rw [if_neg (Nat.lt_irrefl n)] at hj
          have hval : tickN B T h t w n = valN B T h t n := hag5 n (by omega)
          refine sp_addX14 (by omega) (by omega) (hok5 n (by omega)) hj.1 hj.2 (mrkN_lt t) ?_
          refine ihe (n + 1) _ (by omega) ((hf6.ui (a := 15) n _).ui (a := 16) n _) (fun j hj' => ?_) (fun j hj' hj'' => ?_)
          · simp only [ui_at]
            by_cases ej : j = n
            · subst ej
              simp only [hval]
              simp [hisN, mrkN]
            · have := hj1 j hj'
              simp only [ej, and_false, if_false]
              by_cases el : j < n
              · rw [if_pos el] at this
                rw [if_pos (by omega)]
                exact this
              · rw [if_neg el] at this
                rw [if_neg (by omega)]
                exact this
          · have := hj2 j hj' hj''
            simp only [ui_at]
            rw [if_neg (by omega), if_neg (by omega), if_neg (by omega), if_neg (by omega)]
            exact this
      refine inner (bN B) 0 s5 (by omega) fr_rfl (fun j hj => ?_) (fun j hj hj' => ?_)
      · rw [if_neg (Nat.not_lt_zero j), hf15.i 15, hf15.i 16]
        exact hn1 j hj
      · rw [hf15.i 15, hf15.i 16]
        exact hn2 j hj hj'
  refine key T.1 0 s2 v (by omega) hF ?_ ?_ hok (fun q => absurd rfl q) (fun n hn => ?_) (fun n hn hn' => ?_)
  · rw [hf2.i 11, hf1.i 11, ui_at, if_pos ⟨rfl, rfl⟩]
  · exact ((hv.ne 4 (nI h)).fr hf1).fr hf2
  · rw [hf2.i 15, hv1 n (by omega), hv2 n (by omega)]
    exact ⟨rfl, rfl⟩
  · rw [hf2.i 15, hv1 n (by omega), hv2 n (by omega)]
    exact ⟨rfl, rfl⟩
end SX14
section SX17
variable {G : gp_G} {N : Nat} {B : gB} {T : gT} {h t n : Nat} {s : gp_S} {v a : Nat → Nat}
theorem sp_addX17 {f : gp_S → Prop} {b H m : Nat} (hn : n < 12) (ht : t < 16) (hb : b ≤ 1) (hH : s.1 18 n = nI H) (hm : s.1 19 n = nI m) (hm2 : m < 256) (h1 : f (gp_ui (gp_ui s 18 n (nI (H ||| b * 2 ^ t))) 19 n (nI (mst m b)))) : cl_X2_add_o17 G N (nI t) (nI n) (nI b) f s := by
  have h2 : 2 ^ t ≤ 2 ^ 15 := Nat.pow_le_pow_right (by omega) (by omega)
  have h3 : b * 2 ^ t ≤ 1 * 2 ^ t := Nat.mul_le_mul_right _ hb
  have hin : vp_in (nI n) 12 := vp_in_nI hn (by omega)
  refine sg_X2_add_o17 _ _ _ ⟨hin, hin, hin, ?_⟩
  rw [nI_clamp (by omega), hH, hm, bI_shl b (by omega) (by omega), bI_or]
  have e := mst_I hm2 hb
  refine pk_lt m 128 (fun q => ⟨hin, ?_⟩) (fun q => ⟨hin, ?_⟩)
  · rw [if_pos q] at e
    rw [e]
    exact h1
  · rw [if_neg (by omega)] at e
    rw [e]
    exact h1
theorem sp_runX17 {f : gp_S → Prop} (hB : okB B) (hT : okT T) (hh : h < 400) (hb : bX B s) (ht : tX T s) (hv : arr s 12 12 v) (hok : okV v) (h1 : ∀ s' w, fr [11, 12, 13, 18, 19] s s' → s'.1 11 4 = nI h → arr s' 12 12 w → okV w → (∀ n, n < bN B → s'.1 18 n = nI (hisN B T h T.1 n) ∧ s'.1 19 n = nI (mrkN B T h T.1 n)) → (∀ n, bN B ≤ n → n < 12 → s'.1 18 n = 0 ∧ s'.1 19 n = 0) → f s') : cl_X5_run_o17 G (N + 4) (nI h) f s := by
  have h12 := hB.le
  have hT1 := hT.1
  refine sg_X5_run_o17 _ (sg_X2_clear_o17 (sp_fill_18 (fun s1 hf1 hv1 => sp_fill_19 (fun s2 hf2 hv2 => ?_))))
  have hF : fr [11, 12, 13, 18, 19] s s2 := ((fr_rfl.ui (a := 11) 4 (nI h)).trans (hf1.mono (by decide))).trans (hf2.mono (by decide))
  have key : ∀ (d t : Nat) (s1 : gp_S) (w : Nat → Nat), t + d = T.1 → fr [11, 12, 13, 18, 19] s s1 → s1.1 11 4 = nI h → arr s1 12 12 w → okV w → (t ≠ 0 → agr (bN B) w (runN B T h (fun _ => 0) t)) → (∀ n, n < bN B → s1.1 18 n = nI (hisN B T h t n) ∧ s1.1 19 n = nI (mrkN B T h t n)) → (∀ n, bN B ≤ n → n < 12 → s1.1 18 n = 0 ∧ s1.1 19 n = 0) → at_X5_run_o17_11 G (N + 4) (nI h) (nI t) f s1 := by
    intro d
    induction d with
    | zero =>
      intro t s1 w htd hf h11 hw hw1 hag hn1 hn2
      refine sg_X5_run_o17_11 _ _ ?_
      rw [(ht.fr hf).1]
      have e : T.1 = t := by omega
      exact pk_le T.1 t (fun _ => h1 s1 w hf h11 hw hw1 (by rw [e]; exact hn1) hn2) (fun q => absurd q (by omega))
    | succ d ih =>
      intro t s1 w htd hf h11 hw hw1 hag hn1 hn2
      refine sg_X5_run_o17_11 _ _ ?_
      rw [(ht.fr hf).1]
      refine pk_le T.1 t (fun q => absurd q (by omega)) (fun _ => ?_)
      have hs3 : sX B T h (gp_ua s1 13 (va_cpy (s1.1 12) (s1.1 13) 0 0 12)) := by
        have hfa : fr [13] s1 (gp_ua s1 13 (va_cpy (s1.1 12) (s1.1 13) 0 0 12)) := fr_rfl.ua (a := 13) _
        exact sX.fr (l := [13]) ⟨hb.fr hf, ht.fr hf, h11⟩ hfa
      have hw3 : arr (gp_ua s1 13 (va_cpy (s1.1 12) (s1.1 13) 0 0 12)) 12 12 w := fun k hk => by simp only [gp_ua]; exact hw k hk
      have ha3 : arr (gp_ua s1 13 (va_cpy (s1.1 12) (s1.1 13) 0 0 12)) 13 12 w := fun k hk => by
        simp only [gp_ua, if_true]
        rw [pk_cpy_in (by omega) (by omega)]
        simp only [Nat.zero_add, Nat.sub_zero]
        exact hw k hk
      refine sp_setX (d := true) hB hT hh hs3 hw3 ha3 hw1 hw1 (by omega) (fun s4 hf4 hw4 => ?_)
      refine sp_setX (d := false) hB hT hh (hs3.fr hf4) hw4 (ha3.fr hf4) (psN_ok hB hw1 (Nat.le_refl _) hw1) hw1 (by omega) (fun s5 hf5 hw5 => ?_)
      have hw5 : arr s5 12 12 (tickN B T h t w) := hw5
      have hok5 := tickN_ok (T := T) (h := h) (t := t) hB hw1
      have hag5 : agr (bN B) (tickN B T h t w) (runN B T h (fun _ => 0) (t + 1)) := tickN_agr hB hag
      have hf15 : fr [12, 13] s1 s5 := ((fr_rfl.ua (a := 13) _).trans (hf4.mono (by decide))).trans (hf5.mono (by decide))
      have inner : ∀ (e n : Nat) (s6 : gp_S), n + e = bN B → fr [18, 19] s5 s6 → (∀ j, j < bN B → s6.1 18 j = nI (hisN B T h (if j < n then t + 1 else t) j) ∧ s6.1 19 j = nI (mrkN B T h (if j < n then t + 1 else t) j)) → (∀ j, bN B ≤ j → j < 12 → s6.1 18 j = 0 ∧ s6.1 19 j = 0) → at_X5_run_o17_52 G (N + 4) (nI h) (nI t) (nI n) f s6 := by
        intro e
        induction e with
        | zero =>
          intro n s6 hne hf6 hj1 hj2
          have hfa : fr [11, 12, 13, 18, 19] s s6 := (hf.trans (hf15.mono (by decide))).trans (hf6.mono (by decide))
          refine sg_X5_run_o17_52 _ _ _ ?_
          rw [(hb.fr hfa).2.1, nI_1 t, nI_1 n]
          refine pk_le (bN B) n (fun _ => ?_) (fun q => absurd q (by omega))
          refine ih (t + 1) s6 (tickN B T h t w) (by omega) hfa ?_ (hw5.fr hf6) hok5 (fun _ => hag5) (fun j hj => ?_) hj2
          · rw [hf6.i 11, hf15.i 11]; exact h11
          · have := hj1 j hj
            rwa [if_pos (by omega)] at this
        | succ e ihe =>
          intro n s6 hne hf6 hj1 hj2
          have hfa : fr [11, 12, 13, 18, 19] s s6 := (hf.trans (hf15.mono (by decide))).trans (hf6.mono (by decide))
          refine sg_X5_run_o17_52 _ _ _ ?_
          rw [(hb.fr hfa).2.1, nI_1 t, nI_1 n]
          refine pk_le (bN B) n (fun q => absurd q (by omega)) (fun _ => ⟨vp_in_nI (by omega) (by omega), ?_⟩)
          rw [nI_clamp (by omega), (hw5.fr hf6) n (by omega)]
          have hj := hj1 n (by omega)
          rw [if_neg (Nat.lt_irrefl n)] at hj
          have hval : tickN B T h t w n = valN B T h t n := hag5 n (by omega)
          refine sp_addX17 (by omega) (by omega) (hok5 n (by omega)) hj.1 hj.2 (mrkN_lt t) ?_
          refine ihe (n + 1) _ (by omega) ((hf6.ui (a := 18) n _).ui (a := 19) n _) (fun j hj' => ?_) (fun j hj' hj'' => ?_)
          · simp only [ui_at]
            by_cases ej : j = n
            · subst ej
              simp only [hval]
              simp [hisN, mrkN]
            · have := hj1 j hj'
              simp only [ej, and_false, if_false]
              by_cases el : j < n
              · rw [if_pos el] at this
                rw [if_pos (by omega)]
                exact this
              · rw [if_neg el] at this
                rw [if_neg (by omega)]
                exact this
          · have := hj2 j hj' hj''
            simp only [ui_at]
            rw [if_neg (by omega), if_neg (by omega), if_neg (by omega), if_neg (by omega)]
            exact this
      refine inner (bN B) 0 s5 (by omega) fr_rfl (fun j hj => ?_) (fun j hj hj' => ?_)
      · rw [if_neg (Nat.not_lt_zero j), hf15.i 18, hf15.i 19]
        exact hn1 j hj
      · rw [hf15.i 18, hf15.i 19]
        exact hn2 j hj hj'
  refine key T.1 0 s2 v (by omega) hF ?_ ?_ hok (fun q => absurd rfl q) (fun n hn => ?_) (fun n hn hn' => ?_)
  · rw [hf2.i 11, hf1.i 11, ui_at, if_pos ⟨rfl, rfl⟩]
  · exact ((hv.ne 4 (nI h)).fr hf1).fr hf2
  · rw [hf2.i 18, hv1 n (by omega), hv2 n (by omega)]
    exact ⟨rfl, rfl⟩
  · rw [hf2.i 18, hv1 n (by omega), hv2 n (by omega)]
    exact ⟨rfl, rfl⟩
end SX17
