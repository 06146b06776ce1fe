def fvN (o : Option Nat) : Nat := match o with
  | none => 0
  | some t => t + 1
theorem figI_cmp {a b : Option Nat} (ha : ∀ t, a = some t → t < 16) (hb : ∀ t, b = some t → t < 16) : (figI a < figI b ↔ fvN a < fvN b) ∧ (figI a ≤ figI b ↔ fvN a ≤ fvN b) ∧ (figI a = figI b ↔ fvN a = fvN b) := by
  have key : ∀ o : Option Nat, (∀ t, o = some t → t < 16) → (figI o).toInt = (fvN o : Int) - 1 := by
    intro o ho
    cases o with
    | none => show (-1 : Int32).toInt = _; decide
    | some t =>
      have := ho t rfl
      show (nI t).toInt = ((t + 1 : Nat) : Int) - 1
      rw [nI_toInt (by omega)]
      omega
  have e1 := key a ha
  have e2 := key b hb
  rw [Int32.lt_iff_toInt_lt, Int32.le_iff_toInt_le, ← Int32.toInt_inj, e1, e2]
  omega
def leN (fi : Nat → Option Nat) (kd : Nat → Nat) (W l d : Nat) : Bool := decide (fi d ≠ none) && (!W.testBit d && (if kd l = 5 then decide (fvN (fi d) < fvN (fi l)) else decide (fvN (fi d) ≤ fvN (fi l))))
def beN (fi : Nat → Option Nat) (d : Nat) (b : Option Nat) : Bool := match b with
  | none => true
  | some c => decide (fvN (fi d) < fvN (fi c)) || (decide (fvN (fi d) = fvN (fi c)) && decide (d < c))
def srS (fi : Nat → Option Nat) (B : gB) (W l : Nat) : Nat → Option Nat
  | 0 => none
  | p + 1 => if leN fi (bK B) W l (bD B (2 * l + p)) && beN fi (bD B (2 * l + p)) (srS fi B W l p) then some (bD B (2 * l + p)) else srS fi B W l p
def srN (fi : Nat → Option Nat) (B : gB) (W l : Nat) : Option Nat := srS fi B W l (pinsN (bK B l))
def wyN (fi : Nat → Option Nat) (B : gB) : Nat → Nat → Nat → List Nat
  | 0, _, _ => []
  | d + 1, W, l => l :: match srN fi B (W ||| 2 ^ l) l with
    | none => []
    | some m => wyN fi B d (W ||| 2 ^ l) m
def wayN (fi : Nat → Option Nat) (B : gB) (n : Nat) : List Nat := if fi n = none then [] else wyN fi B (unL (bN B) 0) 0 n
theorem srS_some {fi : Nat → Option Nat} {B : gB} {W l : Nat} (hB : okB B) (hl : l < bN B) : ∀ {p r : Nat}, p ≤ pinsN (bK B l) → srS fi B W l p = some r → r < bN B ∧ W.testBit r = false
  | 0, r, _, h => by cases h
  | p + 1, r, hp, h => by
    unfold srS at h
    split at h
    · rename_i hc
      cases h
      refine ⟨(hB.2.2.2.2.2 l p hl (by omega)).1, ?_⟩
      rw [Bool.and_eq_true] at hc
      have := hc.1
      unfold leN at this
      rw [Bool.and_eq_true, Bool.and_eq_true] at this
      simpa using this.2.1
    · exact srS_some hB hl (by omega) h
section WX
variable {G : gp_G} {N : Nat} {B : gB} {T : gT} {h W l d : Nat} {s : gp_S} {fi : Nat → Option Nat}
def fsX (fi : Nat → Option Nat) (nn : Nat) (s : gp_S) : Prop := ∀ n, n < nn → s.1 32 n = figI (fi n)
theorem sp_drvX {f : Int32 → gp_S → Prop} {n p : Nat} {y : Int32} (hB : okB B) (hb : bX B s) (hn : n < bN B) (hp : p < 2) (h1 : f (if p < pinsN (bK B n) then nI (bD B (2 * n + p)) else -1) s) (hy : y = nI p := by rfl) : cl_X0_driver_o3 G (N + 1) (nI n) y f s := by
  subst hy
  have h12 := hB.le
  have hp2 := @pins_le (bK B n)
  refine sg_X0_driver_o3 _ _ (sp_pinsW (by omega) (hB.2.2.2.1 n hn) (hb.2.2.1 n hn) ?_)
  rw [mulI (b := 2), nI_add, nI_clamp (by omega)]
  refine pk_le (pinsN (bK B n)) p (fun q => ?_) (fun q => ⟨vp_in_nI (by omega) (by omega), ?_⟩)
  · rwa [if_neg (by omega)] at h1
  · rw [if_pos q] at h1
    rw [hb.2.2.2 n p hn q]
    exact h1
theorem sp_leadX {f : Int32 → gp_S → Prop} (hB : okB B) (hb : bX B s) (hfi : ∀ n t, fi n = some t → t < 16) (hs : fsX fi (bN B) s) (hW : s.1 31 3 = nI W) (hW2 : W < 2 ^ 12) (hl : l < bN B) (hd : d < bN B) (h1 : f (if leN fi (bK B) W l d then 1 else 0) s) : cl_X8_leadsTo G (N + 1) (nI d) (nI l) f s := by
  have h12 := hB.le
  have hk5 := hB.2.2.2.1 l hl
  have hin : vp_in (nI d) 12 := vp_in_nI (by omega) (by omega)
  have hin2 : vp_in (nI l) 12 := vp_in_nI (by omega) (by omega)
  refine sg_X8_leadsTo _ _ (sp_hasX hB hb (fun n hn e => ?_) (fun q => absurd rfl (q d hd)))
  obtain ⟨c1, c2, c3⟩ := figI_cmp (hfi d) (hfi l)
  rw [nI_clamp (by omega), nI_clamp (by omega), hs d hd, hs l hl, hW, bI_bit (by omega) (by omega), hb.2.2.1 l hl, c1, c3, figI_m1 (hfi d)]
  refine ⟨fun q => absurd q (by decide), fun _ => ⟨hin, fun e1 => ?_, fun e1 => ?_⟩⟩
  · unfold leN at h1
    simpa [e1] using h1
  · unfold leN at h1
    simp only [ne_eq, e1, not_false_eq_true, decide_true, Bool.true_and] at h1
    cases hb2 : W.testBit d with
    | true =>
      rw [hb2] at h1
      exact ⟨fun q => absurd q (by decide), fun _ => h1⟩
    | false =>
      rw [hb2] at h1
      simp only [Bool.not_false, Bool.true_and] at h1
      refine ⟨fun _ => ⟨hin, hin2, fun e2 => ?_, fun e2 => ⟨hin, hin2, fun e3 => ?_, fun e3 => ⟨hin2, pk_eq (bK B l) 5 (fun e4 => ?_) (fun e4 => ?_)⟩⟩⟩, fun q => absurd rfl q⟩
      · split at h1
        · simpa [e2] using h1
        · simpa [show fvN (fi d) ≤ fvN (fi l) by omega] using h1
      · split at h1
        · simpa [e2] using h1
        · simpa [show ¬ fvN (fi d) ≤ fvN (fi l) by omega] using h1
      · rw [if_pos e4] at h1
        simpa [e2] using h1
      · rw [if_neg e4] at h1
        simpa [show fvN (fi d) ≤ fvN (fi l) by omega] using h1
theorem sp_soonX {f : Int32 → gp_S → Prop} {c : Nat} (h12 : bN B ≤ 12) (hfi : ∀ n t, fi n = some t → t < 16) (hs : fsX fi (bN B) s) (hd : d < bN B) (hc : c < bN B) (h1 : f (if beN fi d (some c) then 1 else 0) s) : cl_X8_isSooner G N (nI d) (nI c) f s := by
  have hin : vp_in (nI d) 12 := vp_in_nI (by omega) (by omega)
  have hin2 : vp_in (nI c) 12 := vp_in_nI (by omega) (by omega)
  obtain ⟨c1, c2, c3⟩ := figI_cmp (hfi d) (hfi c)
  refine sg_X8_isSooner _ _ ⟨hin, hin2, ?_⟩
  rw [nI_clamp (by omega), nI_clamp (by omega), hs d hd, hs c hc, c1, c3]
  unfold beN at h1
  refine ⟨fun e => ?_, fun e => ⟨hin, hin2, fun e2 => ?_, fun e2 => pk_le c d (fun e3 => ?_) (fun e3 => ?_)⟩⟩
  · simpa [e] using h1
  · simpa [e, e2] using h1
  · simpa [e, e2, show ¬ d < c by omega] using h1
  · simpa [e, e2, e3] using h1
theorem sp_srcX {f : Int32 → gp_S → Prop} (hB : okB B) (hb : bX B s) (hfi : ∀ n t, fi n = some t → t < 16) (hs : fsX fi (bN B) s) (hW : s.1 31 3 = nI W) (hW2 : W < 2 ^ 12) (hl : l < bN B) (h1 : f (figI (srN fi B W l)) s) : cl_X8_source G (N + 2) (nI l) f s := by
  have h12 := hB.le
  have hp2 := @pins_le (bK B l)
  have hk5 := hB.2.2.2.1 l hl
  have key : ∀ (m p : Nat), p + m = pinsN (bK B l) → at_X8_source_4 G (N + 2) (nI l) (figI (srS fi B W l p)) (nI p) f s := by
    intro m
    induction m with
    | zero =>
      intro p hp
      refine sg_X8_source_4 _ _ _ (sp_pinsW (by omega) hk5 (hb.2.2.1 l hl) ?_)
      refine pk_le (pinsN (bK B l)) p (fun _ => ?_) (fun q => absurd q (by omega))
      unfold srN at h1
      rwa [show pinsN (bK B l) = p from by omega] at h1
    | succ m ih =>
      intro p hp
      have hd := (hB.2.2.2.2.2 l p hl (by omega)).1
      refine sg_X8_source_4 _ _ _ (sp_pinsW (by omega) hk5 (hb.2.2.1 l hl) ?_)
      rw [nI_1]
      refine pk_le (pinsN (bK B l)) p (fun q => absurd q (by omega)) (fun _ => sp_drvX (p := p) hB hb hl (by omega) ?_)
      rw [if_pos (by omega)]
      refine sp_leadX hB hb hfi hs hW hW2 hl hd ?_
      have hi := ih (p + 1) (by omega)
      rw [srS] at hi
      cases hle : leN fi (bK B) W l (bD B (2 * l + p)) with
      | false =>
        rw [hle] at hi
        exact ⟨fun _ => hi, fun q => absurd rfl q⟩
      | true =>
        rw [hle] at hi
        simp only [Bool.true_and] at hi
        refine ⟨fun q => absurd q (by decide), fun _ => ?_⟩
        cases hso : srS fi B W l p with
        | none =>
          rw [hso] at hi
          exact ⟨fun _ => hi, fun q => absurd rfl q⟩
        | some c =>
          have hc := (srS_some hB hl (by omega) hso).1
          rw [hso] at hi
          refine ⟨fun q => absurd q (nI_m1 c (by omega)), fun _ => sp_soonX h12 hfi hs hd hc ?_⟩
          cases hbe : beN fi (bD B (2 * l + p)) (some c) with
          | false =>
            rw [hbe] at hi
            exact ⟨fun _ => hi, fun q => absurd rfl q⟩
          | true =>
            rw [hbe] at hi
            exact ⟨fun q => absurd q (by decide), fun _ => hi⟩
  exact sg_X8_source _ (key (pinsN (bK B l)) 0 (by omega))
def pWX (a k : Nat) : Bool := a == 33 || (a == 31 && (k == 3 || k == 4))
theorem bX.fm {s' : gp_S} {P : Nat → Nat → Bool} (hb : bX B s) (hf : fm P s s') (h2 : P 3 2 = false := by rfl) (h3 : P 3 3 = false := by rfl) (h4 : ∀ k, P 4 k = false := by intro k; rfl) (h5 : ∀ k, P 5 k = false := by intro k; rfl) : bX B s' :=
  ⟨by rw [hf.i 3 2 h2]; exact hb.1, by rw [hf.i 3 3 h3]; exact hb.2.1, fun n hn => by rw [hf.i 4 n (h4 n)]; exact hb.2.2.1 n hn, fun n p hn hp => by rw [hf.i 5 _ (h5 _)]; exact hb.2.2.2 n p hn hp⟩
theorem fsX.fm {nn : Nat} {s' : gp_S} {P : Nat → Nat → Bool} (hs : fsX fi nn s) (hf : fm P s s') (h4 : ∀ k, P 32 k = false := by intro k; rfl) : fsX fi nn s' := fun n hn => by rw [hf.i 32 n (h4 n)]; exact hs n hn
theorem unL_0 {nn : Nat} : unL nn 0 = nn := by
  unfold unL
  rw [fb_ct_all]
  intro k _
  simp
theorem unL_pos {nn W l : Nat} (hl : l < nn) (hb : W.testBit l = false) : 0 < unL nn W := by have := unL_or hl hb; omega
theorem sp_goX {f : gp_S → Prop} (hB : okB B) (hb : bX B s) (hfi : ∀ n t, fi n = some t → t < 16) (hs : fsX fi (bN B) s) {n : Nat} (hn : n < bN B) (h1 : ∀ s', fm pWX s s' → lst s' 33 (s'.1 31 4) (wayN fi B n) → f s') : cl_X8_goFrom G (N + 3) (nI n) f s := by
  have h12 := hB.le
  have stop : ∀ (s1 : gp_S) (pre : List Nat), fm pWX s s1 → lst s1 33 (s1.1 31 4) pre → pre = wayN fi B n → at_X8_goFrom_26 G (N + 3) (nI n) (-1) f s1 := by
    intro s1 pre hf hl hpre
    exact sg_X8_goFrom_26 _ _ ⟨fun _ => h1 s1 hf (by rw [← hpre]; exact hl), fun q => absurd rfl q⟩
  have key : ∀ (d W l : Nat) (pre : List Nat) (s1 : gp_S), unL (bN B) W = d → W < 2 ^ bN B → l < bN B → W.testBit l = false → fm pWX s s1 → s1.1 31 3 = nI W → lst s1 33 (s1.1 31 4) pre → pre.length + d = bN B → pre ++ wyN fi B d W l = wayN fi B n → at_X8_goFrom_26 G (N + 3) (nI n) (nI l) f s1 := by
    intro d
    induction d with
    | zero =>
      intro W l pre s1 hd hW hl hWl
      have := unL_pos hl hWl
      omega
    | succ d ih =>
      intro W l pre s1 hd hW hl hWl hf h3 hls hlen heq
      have hu := unL_or hl hWl
      have hW' : W ||| 2 ^ l < 2 ^ bN B := Nat.or_lt_two_pow hW (Nat.pow_lt_pow_right (by omega) hl)
      have hW12 : W ||| 2 ^ l < 2 ^ 12 := Nat.lt_of_lt_of_le hW' (Nat.pow_le_pow_right (by omega) h12)
      refine sg_X8_goFrom_26 _ _ ⟨fun q => absurd q (nI_m1 l (by omega)), fun _ => ?_⟩
      rw [hls.1]
      refine pk_le 12 pre.length (fun q => absurd q (by omega)) (fun _ => ⟨vp_in_nI (by omega) (by omega), ?_⟩)
      rw [nI_clamp (by omega), h3, bI_1shl (by omega), bI_or]
      have hf2 : fm pWX s (gp_ui (gp_ui (gp_ui s1 33 pre.length (nI l)) 31 4 (nI pre.length + 1)) 31 3 (nI (W ||| 2 ^ l))) := ((hf.ui 33 _ _).ui 31 4 _).ui 31 3 _
      have hl2 : lst (gp_ui (gp_ui (gp_ui s1 33 pre.length (nI l)) 31 4 (nI pre.length + 1)) 31 3 (nI (W ||| 2 ^ l))) 33 ((gp_ui (gp_ui (gp_ui s1 33 pre.length (nI l)) 31 4 (nI pre.length + 1)) 31 3 (nI (W ||| 2 ^ l))).1 31 4) (pre ++ [l]) := by
        have := hls.add (x := l) (gp_ui (gp_ui (gp_ui s1 33 pre.length (nI l)) 31 4 (nI pre.length + 1)) 31 3 (nI (W ||| 2 ^ l))) (by rw [gp_ui_ne _ _ _ (by decide), gp_ui_ne _ _ _ (by decide)])
        rw [ui_at, if_neg (by omega), ui_at, if_pos ⟨rfl, rfl⟩]
        rw [hls.1] at this
        exact this
      refine sp_srcX hB (hb.fm hf2) hfi (hs.fm hf2) (by rw [ui_at, if_pos ⟨rfl, rfl⟩]) hW12 hl ?_
      rw [wyN] at heq
      cases hsr : srN fi B (W ||| 2 ^ l) l with
      | none =>
        rw [hsr] at heq
        exact stop _ _ hf2 hl2 heq
      | some m =>
        rw [hsr] at heq
        obtain ⟨hm1, hm2⟩ := srS_some hB hl (Nat.le_refl _) hsr
        refine ih (W ||| 2 ^ l) m (pre ++ [l]) _ (by omega) hW' hm1 hm2 hf2 (by rw [ui_at, if_pos ⟨rfl, rfl⟩]) hl2 (by simp; omega) ?_
        rw [List.append_assoc]
        exact heq
  have hf0 : fm pWX s (gp_ui (gp_ui s 31 4 0) 31 3 0) := (fm_rfl.ui 31 4 _).ui 31 3 _
  have hl0 : lst (gp_ui (gp_ui s 31 4 0) 31 3 0) 33 ((gp_ui (gp_ui s 31 4 0) 31 3 0).1 31 4) [] := ⟨by simp [ui_at]; rfl, fun i hi => absurd hi (Nat.not_lt_zero i)⟩
  refine sg_X8_goFrom _ ⟨vp_in_nI (by omega) (by omega), ?_⟩
  rw [nI_clamp (by omega), hs n hn, figI_m1 (hfi n)]
  refine ⟨fun e => key (bN B) 0 n [] _ unL_0 (Nat.two_pow_pos _) hn (by simp) hf0 (by rw [ui_at, if_pos ⟨rfl, rfl⟩]; rfl) hl0 (by simp) ?_, fun e => stop _ _ hf0 hl0 ?_⟩
  · unfold wayN
    rw [if_neg e, unL_0]
    rfl
  · unfold wayN
    rw [if_pos e]
theorem sp_atX {f : Int32 → gp_S → Prop} {x : Int32} {w : List Nat} (hw : w.length ≤ 12) (hl : lst s 33 (s.1 31 4) w) (h1 : ∀ j, j < w.length → x = nI j → f (nI (w.getD j 0)) s) (h2 : (∀ j, j < w.length → ¬ x = nI j) → f (-1) s) : cl_X8_at G N x f s := by
  refine sg_X8_at _ ?_
  rw [hl.1]
  rcases nI_cases x w.length (by omega) with ⟨j, hj, rfl⟩ | q | q
  · refine ⟨fun q => absurd q (nI_pos (by omega)), fun _ => ⟨fun q => absurd q (nI_ge hj (by omega)), fun _ => ⟨vp_in_nI (by omega) (by omega), ?_⟩⟩⟩
    rw [nI_clamp (by omega), hl.2 j hj]
    exact h1 j hj rfl
  · have hn : ∀ n, n < w.length → ¬ x = nI n := fun n hn e => by rw [e] at q; exact absurd q (nI_pos (by omega))
    exact ⟨fun _ => h2 hn, fun z => absurd q z⟩
  · have hn : ∀ n, n < w.length → ¬ x = nI n := fun n hn e => by rw [e] at q; exact absurd q (nI_ge hn (by omega))
    exact ⟨fun _ => h2 hn, fun _ => ⟨fun _ => h2 hn, fun z => absurd q z⟩⟩
theorem wyN_len : ∀ (d W l : Nat), (wyN fi B d W l).length ≤ d
  | 0, _, _ => Nat.le_refl _
  | d + 1, W, l => by
    unfold wyN
    simp only [List.length_cons]
    split
    · simp
    · rename_i m _
      have := wyN_len d (W ||| 2 ^ l) m
      omega
theorem wayN_len (hB : okB B) (n : Nat) : (wayN fi B n).length ≤ 12 := by
  unfold wayN
  split
  · simp
  · have := @wyN_len B fi (unL (bN B) 0) 0 n
    rw [unL_0] at this ⊢
    have := hB.le
    omega
end WX
