theorem lI_sm : ∀ t, t < 64 → (((nI t).toInt64 &&& 63).toBitVec.smod 64).toNat = t := by decide +kernel
theorem lI_shl : ∀ i, i < 64 → lN 1 <<< ((nI i).toInt64 &&& 63) = lN (2 ^ i) ∧ lN 0 <<< ((nI i).toInt64 &&& 63) = lN 0 := by decide +kernel
theorem lI_shlB {b i : Nat} (hb : b ≤ 1) (hi : i < 64) : lN b <<< ((nI i).toInt64 &&& 63) = lN (b * 2 ^ i) := by
  rcases (show b = 0 ∨ b = 1 by omega) with rfl | rfl
  · rw [(lI_shl i hi).2, Nat.zero_mul]
  · rw [(lI_shl i hi).1, Nat.one_mul]
theorem lI_shr {n i : Nat} (hn : n < 2 ^ 63) (hi : i < 64) : lN n >>> ((nI i).toInt64 &&& 63) = lN (n / 2 ^ i) := by
  apply Int64.toInt_inj.mp
  have h2 : n / 2 ^ i ≤ n := Nat.div_le_self _ _
  have e : (lN n >>> ((nI i).toInt64 &&& 63)).toInt = (lN n).toInt >>> i := by
    show ((lN n).toBitVec.sshiftRight (((nI i).toInt64 &&& 63).toBitVec.smod 64).toNat).toInt = _
    rw [lI_sm i hi, BitVec.toInt_sshiftRight]
    rfl
  rw [e, pk_lT hn, pk_lT (by omega), Int.shiftRight_eq_div_pow]
  rfl
theorem lI_bit {n i : Nat} (hn : n < 2 ^ 63) (hi : i < 64) : lN n >>> ((nI i).toInt64 &&& 63) &&& 1 = lN (bitN n i) := by
  rw [lI_shr hn hi, show (1 : Int64) = lN 1 from rfl, fb_andL, Nat.and_one_is_mod]
  congr 1
  unfold bitN
  rw [Nat.testBit_eq_decide_div_mod_eq]
  rcases Nat.mod_two_eq_zero_or_one (n / 2 ^ i) with h | h <;> simp [h]
theorem lg_cmp_0 (x y : Int64) : lg_cmp x y = 0 ↔ x = y := by
  unfold lg_cmp
  by_cases h : x > y
  · rw [if_pos h]
    exact ⟨fun q => absurd q (by decide), fun q => by subst q; exact absurd h (Int64.lt_irrefl)⟩
  · rw [if_neg h]
    by_cases e : x = y
    · simp [e]
    · rw [if_neg e]
      exact ⟨fun q => absurd q (by decide), fun q => absurd q e⟩
def badN (B : gB) (T : gT) (h n : Nat) : Bool := decide (mrkN B T h T.1 n ≠ mrkN B T 0 T.1 n)
def unN (B : gB) (T : gT) (h n : Nat) : Bool := decide (hisN B T h T.1 n ≠ hisN B T 0 T.1 n)
def bbN (B : gB) (T : gT) (h : Nat) : Nat := msk (badN B T h) (bN B)
def uuN (B : gB) (T : gT) (h : Nat) : Nat := msk (unN B T h) (bN B)
theorem bbN_lt {B : gB} {T : gT} {h : Nat} (hB : okB B) : bbN B T h < 2 ^ 12 := Nat.lt_of_lt_of_le (msk_lt _ _) (Nat.pow_le_pow_right (by omega) hB.le)
theorem uuN_lt {B : gB} {T : gT} {h : Nat} (hB : okB B) : uuN B T h < 2 ^ 12 := Nat.lt_of_lt_of_le (msk_lt _ _) (Nat.pow_le_pow_right (by omega) hB.le)
theorem hisN_lt31 {B : gB} {T : gT} {h n : Nat} (hB : okB B) (hT : okT T) (hn : n < 12) : hisN B T h T.1 n < 2 ^ 16 := Nat.lt_of_lt_of_le (hisN_lt hB hn T.1) (Nat.pow_le_pow_right (by omega) hT.1)
/-- histories and marks of all nodes, in two arrays -/
def hsX (c d : Nat) (B : gB) (T : gT) (h : Nat) (s : gp_S) : Prop := (∀ n, n < bN B → s.1 c n = nI (hisN B T h T.1 n) ∧ s.1 d n = nI (mrkN B T h T.1 n)) ∧ (∀ n, bN B ≤ n → n < 12 → s.1 c n = 0 ∧ s.1 d n = 0)
theorem hsX.fr {c d : Nat} {B : gB} {T : gT} {h : Nat} {s s' : gp_S} {l : List Nat} (hh : hsX c d B T h s) (hf : fr l s s') (h1 : c ∉ l := by decide) (h2 : d ∉ l := by decide) : hsX c d B T h s' := by
  unfold hsX
  rw [hf.i c h1, hf.i d h2]
  exact hh
section FX
variable {G : gp_G} {N : Nat} {B : gB} {T : gT} {h : Nat} {s : gp_S}
theorem sp_badX {f : Int32 → gp_S → Prop} (hB : okB B) (hg : hsX 15 16 B T 0 s) (hw : hsX 18 19 B T h s) (h1 : f (nI (bbN B T h)) s) : cl_X2_badNodes_o17_o14 G (N + 1) f s := by
  have h12 := hB.le
  have key : ∀ (m n : Nat), n + m = 12 → at_X2_badNodes_o17_o14_4 G (N + 1) (nI (msk (fun n => decide (s.1 19 n ≠ s.1 16 n)) n)) (nI n) f s := by
    intro m
    induction m with
    | zero =>
      intro n hn
      refine sg_X2_badNodes_o17_o14_4 _ _ (pk_le 12 n (fun _ => ?_) (fun q => absurd q (by omega)))
      have e : msk (fun n => decide (s.1 19 n ≠ s.1 16 n)) n = bbN B T h := by
        apply msk_ext
        intro j
        by_cases hj : j < bN B
        · simp only [hj, show j < n by omega, decide_true, Bool.true_and, badN]
          rw [(hg.1 j hj).2, (hw.1 j hj).2]
          have := @mrkN_lt B T h j T.1
          have := @mrkN_lt B T 0 j T.1
          simp only [ne_eq, nI_eq (show mrkN B T h T.1 j < 2 ^ 31 by omega) (show mrkN B T 0 T.1 j < 2 ^ 31 by omega)]
        · by_cases hj2 : j < n
          · simp [hj, hj2, (hg.2 j (by omega) (by omega)).2, (hw.2 j (by omega) (by omega)).2]
          · simp [hj, hj2]
      rw [e]
      exact h1
    | succ m ih =>
      intro n hn
      have hin : vp_in (nI n) 12 := vp_in_nI (by omega) (by omega)
      refine sg_X2_badNodes_o17_o14_4 _ _ (pk_le 12 n (fun q => absurd q (by omega)) (fun _ => ?_))
      refine sg_X2_isBad_o17_o14 _ ⟨hin, hin, ?_⟩
      rw [nI_clamp (by omega), nI_1, bI_1shl (by omega), bI_or]
      have hi := ih (n + 1) (by omega)
      unfold msk at hi
      refine ⟨fun e => ⟨fun _ => ?_, fun q => absurd rfl q⟩, fun e => ⟨fun q => absurd q (by decide), fun _ => ?_⟩⟩
      · simp only [e, ne_eq, not_true, decide_false, Bool.false_eq_true, if_false] at hi
        exact hi
      · simp only [e, ne_eq, not_false_eq_true, decide_true, if_true] at hi
        exact hi
  exact sg_X2_badNodes_o17_o14 (key 12 0 rfl)
theorem sp_unX {f : Int32 → gp_S → Prop} (hB : okB B) (hT : okT T) (hg : hsX 15 16 B T 0 s) (hw : hsX 18 19 B T h s) (h1 : f (nI (uuN B T h)) s) : cl_X2_unlikeNodes_o17_o14 G N f s := by
  have h12 := hB.le
  have key : ∀ (m n : Nat), n + m = 12 → at_X2_unlikeNodes_o17_o14_4 G N (nI (msk (fun n => decide (s.1 18 n ≠ s.1 15 n)) n)) (nI n) f s := by
    intro m
    induction m with
    | zero =>
      intro n hn
      refine sg_X2_unlikeNodes_o17_o14_4 _ _ (pk_le 12 n (fun _ => ?_) (fun q => absurd q (by omega)))
      have e : msk (fun n => decide (s.1 18 n ≠ s.1 15 n)) n = uuN B T h := by
        apply msk_ext
        intro j
        by_cases hj : j < bN B
        · simp only [hj, show j < n by omega, decide_true, Bool.true_and, unN]
          rw [(hg.1 j hj).1, (hw.1 j hj).1]
          have := @hisN_lt31 B T h j hB hT (by omega)
          have := @hisN_lt31 B T 0 j hB hT (by omega)
          simp only [ne_eq, nI_eq (show hisN B T h T.1 j < 2 ^ 31 by omega) (show hisN B T 0 T.1 j < 2 ^ 31 by omega)]
        · by_cases hj2 : j < n
          · simp [hj, hj2, (hg.2 j (by omega) (by omega)).1, (hw.2 j (by omega) (by omega)).1]
          · simp [hj, hj2]
      rw [e]
      exact h1
    | succ m ih =>
      intro n hn
      have hin : vp_in (nI n) 12 := vp_in_nI (by omega) (by omega)
      refine sg_X2_unlikeNodes_o17_o14_4 _ _ (pk_le 12 n (fun q => absurd q (by omega)) (fun _ => ⟨hin, hin, ?_⟩))
      rw [nI_clamp (by omega), nI_1, bI_1shl (by omega), bI_or]
      have hi := ih (n + 1) (by omega)
      unfold msk at hi
      refine ⟨fun e => ?_, fun e => ?_⟩
      · simp only [e, ne_eq, not_true, decide_false, Bool.false_eq_true, if_false] at hi
        exact hi
      · simp only [e, ne_eq, not_false_eq_true, decide_true, if_true] at hi
        exact hi
  exact sg_X2_unlikeNodes_o17_o14 (key 12 0 rfl)
theorem sp_addX {f : gp_S → Prop} {l : List Nat} {x : Nat} (hl : lst s 21 (s.1 20 3) l) (hc : l.length < 40) (h1 : ∀ s', fr [20, 21] s s' → lst s' 21 (s'.1 20 3) (l ++ [x]) → f s') : cl_X1_add G N (nI x) f s := by
  refine sg_X1_add _ ?_
  rw [hl.1]
  refine pk_le 40 l.length (fun q => absurd q (by omega)) (fun _ => ⟨vp_in_nI (by omega) (by omega), ?_⟩)
  rw [nI_clamp (by omega)]
  refine h1 _ ((fr_rfl.ui (a := 21) _ _).ui (a := 20) _ _) ?_
  have := hl.add (x := x) (gp_ui (gp_ui s 21 l.length (nI x)) 20 3 (nI l.length + 1)) (gp_ui_ne _ _ _ (by decide))
  rw [ui_at, if_pos ⟨rfl, rfl⟩]
  rw [hl.1] at this
  exact this
theorem sp_listX {f : gp_S → Prop} (hB : okB B) (hb : bX B s) (h1 : ∀ s', fr [20, 21] s s' → lst s' 21 (s'.1 20 3) (flN B) → f s') : cl_X1_list_o3 G (N + 1) f s := by
  have h12 := hB.le
  have hlen := flN_len hB
  simp only [flN, List.length_append, f1N_len] at hlen
  have h3len : ∀ k, k ≤ bN B → (f3N B k).length ≤ (f3N B (bN B)).length := by
    intro k hk
    induction hd : bN B - k generalizing k with
    | zero => rw [show k = bN B from by omega]; exact Nat.le_refl _
    | succ d ih =>
      have := ih (k + 1) (by omega) (by omega)
      simp only [f3N, List.length_append] at this
      omega
  have p3 : ∀ (m k : Nat) (s1 : gp_S), k + m = bN B → fr [20, 21] s s1 → lst s1 21 (s1.1 20 3) (f1N 100 (bN B) ++ f1N 200 (bN B) ++ f3N B k) → at_X1_list_o3_60 G (N + 1) (nI k) f s1 := by
    intro m
    induction m with
    | zero =>
      intro k s1 hk hf hl
      refine sg_X1_list_o3_60 _ ?_
      rw [(hb.fr hf).2.1]
      refine pk_le (bN B) k (fun _ => h1 s1 hf ?_) (fun q => absurd q (by omega))
      unfold flN
      rw [show bN B = k from by omega] at hl ⊢
      exact hl
    | succ m ih =>
      intro k s1 hk hf hl
      refine sg_X1_list_o3_60 _ ?_
      rw [(hb.fr hf).2.1]
      refine pk_le (bN B) k (fun q => absurd q (by omega)) (fun _ => ?_)
      have hp2 := @pins_le (bK B k)
      have hk5 := hB.2.2.2.1 k (by omega)
      have hl3 := h3len (k + 1) (by omega)
      simp only [f3N, List.length_append, f2N_len] at hl3
      have inner : ∀ (d p : Nat) (s2 : gp_S), p + d = pinsN (bK B k) → fr [20, 21] s s2 → lst s2 21 (s2.1 20 3) (f1N 100 (bN B) ++ f1N 200 (bN B) ++ (f3N B k ++ f2N 0 k p)) → at_X1_list_o3_70 G (N + 1) (nI k) (nI p) f s2 := by
        intro d
        induction d with
        | zero =>
          intro p s2 hp hf2 hl2
          refine sg_X1_list_o3_70 _ _ (sp_pinsW (by omega) hk5 ((hb.fr hf2).2.2.1 k (by omega)) ?_)
          rw [nI_1 k]
          refine pk_le (pinsN (bK B k)) p (fun _ => ih (k + 1) s2 (by omega) hf2 ?_) (fun q => absurd q (by omega))
          rw [show f3N B (k + 1) = f3N B k ++ f2N 0 k p from by rw [f3N, show pinsN (bK B k) = p from by omega]]
          exact hl2
        | succ d ihd =>
          intro p s2 hp hf2 hl2
          refine sg_X1_list_o3_70 _ _ (sp_pinsW (by omega) hk5 ((hb.fr hf2).2.2.1 k (by omega)) ?_)
          rw [nI_1 p, mulI (b := 2), addL (y := 300) (b := 300), nI_add]
          refine pk_le (pinsN (bK B k)) p (fun q => absurd q (by omega)) (fun _ => ?_)
          refine sp_addX hl2 (by simp only [List.length_append, f1N_len, f2N_len]; omega) (fun s3 hf3 hl3' => ihd (p + 1) s3 (by omega) (hf2.trans hf3) ?_)
          rw [f2N]
          simp only [List.append_assoc] at hl3' ⊢
          exact hl3'
      exact inner (pinsN (bK B k)) 0 s1 (by omega) hf (by rw [show f2N 0 k 0 = [] from rfl, List.append_nil]; exact hl)
  have p2 : ∀ (m k : Nat) (s1 : gp_S), k + m = bN B → fr [20, 21] s s1 → lst s1 21 (s1.1 20 3) (f1N 100 (bN B) ++ f1N 200 k) → at_X1_list_o3_33 G (N + 1) (nI k) f s1 := by
    intro m
    induction m with
    | zero =>
      intro k s1 hk hf hl
      refine sg_X1_list_o3_33 _ ?_
      rw [(hb.fr hf).2.1]
      refine pk_le (bN B) k (fun _ => p3 (bN B) 0 s1 (by omega) hf ?_) (fun q => absurd q (by omega))
      rw [show f3N B 0 = [] from rfl, List.append_nil]
      rw [show k = bN B from by omega] at hl
      exact hl
    | succ m ih =>
      intro k s1 hk hf hl
      refine sg_X1_list_o3_33 _ ?_
      rw [(hb.fr hf).2.1, nI_1, mulI (b := 2), addL (y := 200) (b := 200)]
      refine pk_le (bN B) k (fun q => absurd q (by omega)) (fun _ => ?_)
      refine sp_addX hl (by simp only [List.length_append, f1N_len]; omega) (fun s3 hf3 hl3 => ih (k + 1) s3 (by omega) (hf.trans hf3) ?_)
      rw [show f1N 200 (k + 1) = f1N 200 k ++ [200 + 2 * k] from rfl]
      rw [List.append_assoc] at hl3
      exact hl3
  have p1 : ∀ (m k : Nat) (s1 : gp_S), k + m = bN B → fr [20, 21] s s1 → lst s1 21 (s1.1 20 3) (f1N 100 k) → at_X1_list_o3_7 G (N + 1) (nI k) f s1 := by
    intro m
    induction m with
    | zero =>
      intro k s1 hk hf hl
      refine sg_X1_list_o3_7 _ ?_
      rw [(hb.fr hf).2.1]
      refine pk_le (bN B) k (fun _ => p2 (bN B) 0 s1 (by omega) hf ?_) (fun q => absurd q (by omega))
      rw [show f1N 200 0 = [] from rfl, List.append_nil]
      rw [show k = bN B from by omega] at hl
      exact hl
    | succ m ih =>
      intro k s1 hk hf hl
      refine sg_X1_list_o3_7 _ ?_
      rw [(hb.fr hf).2.1, nI_1, mulI (b := 2), addL (y := 100) (b := 100)]
      refine pk_le (bN B) k (fun q => absurd q (by omega)) (fun _ => ?_)
      exact sp_addX hl (by simp only [f1N_len]; omega) (fun s3 hf3 hl3 => ih (k + 1) s3 (by omega) (hf.trans hf3) hl3)
  refine sg_X1_list_o3 (p1 (bN B) 0 _ (by omega) (fr_rfl.ui (a := 20) _ _) ⟨?_, fun i hi => absurd hi (Nat.not_lt_zero i)⟩)
  rw [ui_at, if_pos ⟨rfl, rfl⟩]
  rfl
theorem sp_indexX {f : Int32 → gp_S → Prop} {x : Int32} (hB : okB B) (hl : lst s 21 (s.1 20 3) (flN B)) (h1 : ∀ i, i < (flN B).length → x = nI ((flN B).getD i 0) → f (nI i) s) (h2 : (∀ i, i < (flN B).length → ¬ x = nI ((flN B).getD i 0)) → f (-1) s) : cl_X1_indexOf G N x f s := by
  have hlen := flN_len hB
  have key : ∀ (m i : Nat), i + m = (flN B).length → (∀ j, j < i → ¬ x = nI ((flN B).getD j 0)) → at_X1_indexOf_2 G N x (nI i) f s := by
    intro m
    induction m with
    | zero =>
      intro i hi hn
      refine sg_X1_indexOf_2 _ _ ?_
      rw [hl.1]
      exact pk_le (flN B).length i (fun _ => h2 (fun j hj => hn j (by omega))) (fun q => absurd q (by omega))
    | succ m ih =>
      intro i hi hn
      refine sg_X1_indexOf_2 _ _ ?_
      rw [hl.1, nI_clamp (by omega), nI_1, hl.2 i (by omega)]
      refine pk_le (flN B).length i (fun q => absurd q (by omega)) (fun _ => ⟨vp_in_nI (by omega) (by omega), fun e => ih (i + 1) (by omega) (fun j hj => ?_), fun e => h1 i (by omega) e.symm⟩)
      by_cases ej : j = i
      · rw [ej]; exact fun q => e q.symm
      · exact hn j (by omega)
  exact sg_X1_indexOf _ (key (flN B).length 0 (by omega) (fun j hj => absurd hj (Nat.not_lt_zero j)))
/-- first tick of difference -/
def ofN (B : gB) (T : gT) (h n : Nat) : Nat := hisN B T h T.1 n ^^^ hisN B T 0 T.1 n
def fiN (B : gB) (T : gT) (h n : Nat) : Option Nat := fsN (ofN B T h n) T.1 0
theorem ofN_lt (hB : okB B) {n : Nat} (hn : n < 12) : ofN B T h n < 2 ^ T.1 := Nat.xor_lt_two_pow (hisN_lt hB hn T.1) (hisN_lt hB hn T.1)
theorem fsX_vc {f : Int32 → gp_S → Prop} {n o : Nat} (ho : o < 2 ^ 31) (h1 : f (figI (fsN o 16 0)) s) : at_X2_firstUnlike_o17_o14_17 G N (nI n) (nI o) 0 f s := by
  have key : ∀ (d t : Nat), t + d = 16 → f (figI (fsN o d t)) s → at_X2_firstUnlike_o17_o14_17 G N (nI n) (nI o) (nI t) f s := by
    intro d
    induction d with
    | zero =>
      intro t ht hf
      exact sg_X2_firstUnlike_o17_o14_17 _ _ _ (pk_le 16 t (fun _ => hf) (fun q => absurd q (by omega)))
    | succ d ih =>
      intro t ht hf
      refine sg_X2_firstUnlike_o17_o14_17 _ _ _ ?_
      rw [bI_bit ho (by omega), nI_1]
      unfold fsN at hf
      refine pk_le 16 t (fun q => absurd q (by omega)) (fun _ => ?_)
      cases hb : o.testBit t with
      | true =>
        rw [hb] at hf
        exact ⟨fun q => absurd q (by decide), fun _ => hf⟩
      | false =>
        rw [hb] at hf
        exact ⟨fun _ => ih (t + 1) (by omega) hf, fun q => absurd rfl q⟩
  exact key 16 0 rfl h1
theorem sp_wlearn {f : gp_S → Prop} (hB : okB B) (hT : okT T) (hg : hsX 15 16 B T 0 s) (hw : hsX 18 19 B T h s) (h1 : ∀ s', fr [32] s s' → (∀ n, n < bN B → s'.1 32 n = figI (fiN B T h n)) → f s') : cl_X8_learn_o14_o17 G (N + 1) f s := by
  have h12 := hB.le
  have key : ∀ (m n : Nat) (s1 : gp_S), n + m = 12 → fr [32] s s1 → (∀ j, j < n → j < bN B → s1.1 32 j = figI (fiN B T h j)) → at_X8_learn_o14_o17_2 G (N + 1) (nI n) f s1 := by
    intro m
    induction m with
    | zero =>
      intro n s1 hn hf hj
      exact sg_X8_learn_o14_o17_2 _ (pk_le 12 n (fun _ => h1 s1 hf (fun j hj' => hj j (by omega) hj')) (fun q => absurd q (by omega)))
    | succ m ih =>
      intro n s1 hn hf hj
      have hin : vp_in (nI n) 12 := vp_in_nI (by omega) (by omega)
      have hg1 := hg.fr hf
      have hw1 := hw.fr hf
      refine sg_X8_learn_o14_o17_2 _ (pk_le 12 n (fun q => absurd q (by omega)) (fun _ => sg_X2_firstUnlike_o17_o14 _ ⟨hin, hin, ?_⟩))
      rw [nI_clamp (by omega), nI_1]
      by_cases hnB : n < bN B
      · rw [(hg1.1 n hnB).1, (hw1.1 n hnB).1, fb_xorI]
        have hlt := @ofN_lt B T h hB n (by omega)
        have hlt2 : ofN B T h n < 2 ^ 31 := Nat.lt_of_lt_of_le hlt (Nat.pow_le_pow_right (by omega) (by have := hT.1; omega))
        refine fsX_vc hlt2 ⟨hin, ih (n + 1) _ (by omega) (hf.ui n _) (fun j hj' hjB => ?_)⟩
        rw [ui_at]
        by_cases e : j = n
        · rw [if_pos ⟨rfl, e⟩, e]
          congr 1
          have := fsN_more hlt T.1 0 (16 - T.1) (by omega)
          rw [show T.1 + (16 - T.1) = 16 from by have := hT.1; omega] at this
          exact this
        · rw [if_neg (by omega)]; exact hj j (by omega) hjB
      · rw [(hg1.2 n (by omega) (by omega)).1, (hw1.2 n (by omega) (by omega)).1, show ((0 : Int32) ^^^ 0) = nI 0 from rfl]
        refine fsX_vc (by decide) ⟨hin, ih (n + 1) _ (by omega) (hf.ui n _) (fun j hj' hjB => ?_)⟩
        rw [ui_at, if_neg (by omega)]
        exact hj j (by omega) hjB
  exact sg_X8_learn_o14_o17 (key 12 0 s rfl fr_rfl (fun j hj => absurd hj (Nat.not_lt_zero j)))
end FX
