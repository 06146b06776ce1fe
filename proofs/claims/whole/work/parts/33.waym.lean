def pWM (a k : Nat) : Bool := a == 49 || (a == 34 && k == 35)
theorem fiN_lt {B : gB} {T : gT} {h : Nat} (hT : okT T) : ∀ n t, fiN B T h n = some t → t < 16 := fun n t e => by
  have := fsN_lt e
  have := hT.1
  omega
section WM
variable {G : gp_G} {N : Nat} {B : gB} {T : gT} {h W l d : Nat} {s : gp_S}
/-- what the reference's way stands on -/
def wM (B : gB) (T : gT) (h : Nat) (s : gp_S) : Prop := bM B s ∧ tM T s ∧ hsM 44 B T 0 s ∧ hsM 45 B T h s
theorem wM.fm {s' : gp_S} (hw : wM B T h s) (hf : fm pWM s s') : wM B T h s' := ⟨hw.1.fm hf, hw.2.1.fm hf, hw.2.2.1.fm hf, hw.2.2.2.fm hf⟩
theorem sp_fstM {f : Int32 → gp_S → Prop} {n : Nat} (hB : okB B) (hT : okT T) (hw : wM B T h s) (hn : n < bN B) (h1 : f (figI (fiN B T h n)) s) : cl_X10_firstOf G (N + 1) (nI n) f s := sp_firstM hB hT hw.2.1 hw.2.2.1 hw.2.2.2 hn h1
theorem sp_betM {f : Int32 → gp_S → Prop} {b : Option Nat} (hB : okB B) (hT : okT T) (hw : wM B T h s) (hd : d < bN B) (hb : ∀ c, b = some c → c < bN B) (h1 : f (if beN (fiN B T h) d b then 1 else 0) s) : cl_X10_isBetter G (N + 2) (nI d) (figI b) f s := by
  have h12 := hB.le
  refine sg_X10_isBetter _ _ ?_
  cases b with
  | none => exact ⟨fun _ => h1, fun q => absurd rfl q⟩
  | some c =>
    have hc := hb c rfl
    refine ⟨fun q => absurd q (nI_m1 c (by omega)), fun _ => ?_⟩
    obtain ⟨c1, c2, c3⟩ := figI_cmp (fiN_lt (B := B) (h := h) hT d) (fiN_lt (B := B) (h := h) hT c)
    refine sp_fstM hB hT hw hd (sp_fstM hB hT hw hc ?_)
    rw [c1]
    unfold beN at h1
    refine ⟨fun e => ?_, fun e => sp_fstM hB hT hw hd (sp_fstM hB hT hw hc ?_)⟩
    · simpa [e] using h1
    · rw [c3]
      refine ⟨fun e2 => ?_, fun e2 => pk_le c d (fun e3 => ?_) (fun e3 => ?_)⟩
      · simpa [e, e2] using h1
      · simpa [e, e2, show ¬ d < c by omega] using h1
      · simpa [e, e2, e3] using h1
theorem sp_goesM {f : Int32 → gp_S → Prop} (hB : okB B) (hT : okT T) (hw : wM B T h s) (hW2 : W < 2 ^ 12) (hl : l < bN B) (h1 : f (figI (srN (fiN B T h) B W l)) s) : cl_X10_goesOn G (N + 3) (nI l) (nI W) f s := by
  have h12 := hB.le
  have hp2 := @pins_le (bK B l)
  have hk5 := hB.2.2.2.1 l hl
  have hin : vp_in (nI l) 12 := vp_in_nI (by omega) (by omega)
  have key : ∀ (m p : Nat), p + m = pinsN (bK B l) → at_X10_goesOn_5 G (N + 3) (nI l) (nI W) (figI (srS (fiN B T h) B W l p)) (nI p) f s := by
    intro m
    induction m with
    | zero =>
      intro p hp
      refine sg_X10_goesOn_5 _ _ _ _ ⟨hin, ?_⟩
      rw [nI_clamp (by omega), hw.1.2.2.1 l hl]
      refine sp_pinsM hk5 (pk_le (pinsN (bK B l)) p (fun _ => ?_) (fun q => absurd q (by omega)))
      unfold srN at h1
      rwa [show pinsN (bK B l) = p from by omega] at h1
    | succ m ih =>
      intro p hp
      have hd := (hB.2.2.2.2.2 l p hl (by omega)).1
      have hdr := hw.1.2.2.2 l p hl (by omega)
      rw [if_pos (by omega)] at hdr
      have hi := ih (p + 1) (by omega)
      rw [srS] at hi
      generalize hdv : bD B (2 * l + p) = d at hd hdr hi
      have hbnd : ∀ c, srS (fiN B T h) B W l p = some c → c < bN B := fun c hc => (srS_some hB hl (by omega) hc).1
      obtain ⟨c1, c2, c3⟩ := figI_cmp (fiN_lt (B := B) (h := h) hT l) (fiN_lt (B := B) (h := h) hT d)
      obtain ⟨c1', c2', c3'⟩ := figI_cmp (fiN_lt (B := B) (h := h) hT d) (fiN_lt (B := B) (h := h) hT l)
      have skip : leN (fiN B T h) (bK B) W l d = false → at_X10_goesOn_5 G (N + 3) (nI l) (nI W) (figI (srS (fiN B T h) B W l p)) (nI (p + 1)) f s := by
        intro hle
        rw [hle] at hi
        exact hi
      have tail : fiN B T h d ≠ none → (if bK B l = 5 then fvN (fiN B T h d) < fvN (fiN B T h l) else fvN (fiN B T h d) ≤ fvN (fiN B T h l)) → cl_X10_has G (N + 2) (nI W) (nI d) (fun r6 s5 => (¬ r6 = 0 → at_X10_goesOn_5 G (N + 3) (nI l) (nI W) (figI (srS (fiN B T h) B W l p)) (nI (p + 1)) f s5) ∧ (r6 = 0 → cl_X10_isBetter G (N + 2) (nI d) (figI (srS (fiN B T h) B W l p)) (fun r8 s7 => (r8 = 0 → at_X10_goesOn_5 G (N + 3) (nI l) (nI W) (figI (srS (fiN B T h) B W l p)) (nI (p + 1)) f s7) ∧ (¬ r8 = 0 → at_X10_goesOn_5 G (N + 3) (nI l) (nI W) (nI d) (nI (p + 1)) f s7)) s5)) s := by
        intro hn hc
        refine sp_hasM (by omega) (by omega) ?_
        have hle : leN (fiN B T h) (bK B) W l d = !W.testBit d := by
          unfold leN
          by_cases e5 : bK B l = 5
          · rw [if_pos e5] at hc
            simp [hn, hc, e5]
          · rw [if_neg e5] at hc
            simp [hn, hc, e5]
        unfold bitN
        cases hb2 : W.testBit d with
        | true => exact ⟨fun _ => skip (by rw [hle, hb2]; rfl), fun q => absurd q (by decide)⟩
        | false =>
          rw [hle, hb2] at hi
          simp only [Bool.not_false, Bool.true_and] at hi
          refine ⟨fun q => absurd rfl q, fun _ => sp_betM hB hT hw hd hbnd ?_⟩
          cases hbe : beN (fiN B T h) d (srS (fiN B T h) B W l p) with
          | false => rw [hbe] at hi; exact ⟨fun _ => hi, fun q => absurd rfl q⟩
          | true => rw [hbe] at hi; exact ⟨fun q => absurd q (by decide), fun _ => hi⟩
      refine sg_X10_goesOn_5 _ _ _ _ ⟨hin, ?_⟩
      rw [nI_clamp (by omega), hw.1.2.2.1 l hl]
      refine sp_pinsM hk5 ?_
      rw [mulI (b := 2), nI_add, nI_clamp (by omega), nI_1, hdr]
      refine pk_le (pinsN (bK B l)) p (fun q => absurd q (by omega)) (fun _ => ⟨vp_in_nI (by omega) (by omega), sp_fstM hB hT hw hd ?_⟩)
      rw [figI_m1 (fiN_lt hT d), hw.1.2.2.1 l hl]
      refine ⟨fun e => ⟨fun _ => skip (by unfold leN; simp [e]), fun q => absurd rfl q⟩, fun e => ⟨hin, pk_ne (bK B l) 5 (fun e5 => sp_fstM hB hT hw hl ?_) (fun e5 => sp_fstM hB hT hw hl ?_)⟩⟩
      · rw [c1]
        refine ⟨fun e2 => ⟨fun _ => skip (by unfold leN; simp [e5]; omega), fun q => absurd rfl q⟩, fun e2 => ⟨fun q => absurd q (by decide), fun _ => tail e (by rw [if_neg e5]; omega)⟩⟩
      · rw [c2]
        refine ⟨fun e2 => ⟨fun _ => skip (by unfold leN; simp [e5]; omega), fun q => absurd rfl q⟩, fun e2 => ⟨fun q => absurd q (by decide), fun _ => tail e (by rw [if_pos e5]; omega)⟩⟩
  exact sg_X10_goesOn _ _ (key (pinsN (bK B l)) 0 (by omega))
theorem sp_wayM {f : gp_S → Prop} {n : Nat} (hB : okB B) (hT : okT T) (hw : wM B T h s) (hn : n < bN B) (h1 : ∀ s', fm pWM s s' → lst s' 49 (s'.1 34 35) (wayN (fiN B T h) B n) → f s') : cl_X10_layWay G (N + 4) (nI n) f s := by
  have h12 := hB.le
  have stop : ∀ (W : Nat) (s1 : gp_S) (pre : List Nat), fm pWM s s1 → lst s1 49 (s1.1 34 35) pre → pre = wayN (fiN B T h) B n → at_X10_layWay_22 G (N + 4) (nI n) (nI W) (-1) f s1 := by
    intro W s1 pre hf hl hpre
    exact sg_X10_layWay_22 _ _ _ ⟨fun _ => h1 s1 hf (by rw [← hpre]; exact hl), fun q => absurd rfl q⟩
  have key : ∀ (d W l : Nat) (pre : List Nat) (s1 : gp_S), unL (bN B) W = d → W < 2 ^ bN B → l < bN B → W.testBit l = false → fm pWM s s1 → lst s1 49 (s1.1 34 35) pre → pre.length + d = bN B → pre ++ wyN (fiN B T h) B d W l = wayN (fiN B T h) B n → at_X10_layWay_22 G (N + 4) (nI n) (nI W) (nI l) f s1 := by
    intro d
    induction d with
    | zero =>
      intro W l pre s1 hd hW hl hWl
      have := unL_pos hl hWl
      omega
    | succ d ih =>
      intro W l pre s1 hd hW hl hWl hf hls hlen heq
      have hu := unL_or hl hWl
      have hW' : W ||| 2 ^ l < 2 ^ bN B := Nat.or_lt_two_pow hW (Nat.pow_lt_pow_right (by omega) hl)
      have hW12 : W ||| 2 ^ l < 2 ^ 12 := Nat.lt_of_lt_of_le hW' (Nat.pow_le_pow_right (by omega) h12)
      refine sg_X10_layWay_22 _ _ _ ⟨fun q => absurd q (nI_m1 l (by omega)), fun _ => ?_⟩
      rw [hls.1]
      refine ⟨vp_in_nI (by omega) (by omega), ?_⟩
      rw [nI_clamp (by omega), bI_1shl (by omega), bI_or]
      have hf2 : fm pWM s (gp_ui (gp_ui s1 49 pre.length (nI l)) 34 35 (nI pre.length + 1)) := (hf.ui 49 _ _).ui 34 35 _
      have hl2 : lst (gp_ui (gp_ui s1 49 pre.length (nI l)) 34 35 (nI pre.length + 1)) 49 ((gp_ui (gp_ui s1 49 pre.length (nI l)) 34 35 (nI pre.length + 1)).1 34 35) (pre ++ [l]) := by
        have := hls.add (x := l) (gp_ui (gp_ui s1 49 pre.length (nI l)) 34 35 (nI pre.length + 1)) (gp_ui_ne _ _ _ (by decide))
        rw [ui_at, if_pos ⟨rfl, rfl⟩]
        rw [hls.1] at this
        exact this
      refine sp_goesM hB hT (hw.fm hf2) hW12 hl ?_
      rw [wyN] at heq
      cases hsr : srN (fiN B T h) B (W ||| 2 ^ l) l with
      | none =>
        rw [hsr] at heq
        exact stop _ _ _ hf2 hl2 heq
      | some m =>
        rw [hsr] at heq
        obtain ⟨hm1, hm2⟩ := srS_some hB hl (Nat.le_refl _) hsr
        refine ih (W ||| 2 ^ l) m (pre ++ [l]) _ (by omega) hW' hm1 hm2 hf2 hl2 (by simp; omega) ?_
        rw [List.append_assoc]
        exact heq
  have hf0 : fm pWM s (gp_ui s 34 35 0) := fm_rfl.ui 34 35 _
  have hl0 : lst (gp_ui s 34 35 0) 49 ((gp_ui s 34 35 0).1 34 35) [] := ⟨by simp [ui_at]; rfl, fun i hi => absurd hi (Nat.not_lt_zero i)⟩
  refine sg_X10_layWay _ (sp_fstM hB hT (hw.fm hf0) hn ?_)
  rw [figI_m1 (fiN_lt hT n)]
  refine ⟨fun e => key (bN B) 0 n [] _ unL_0 (Nat.two_pow_pos _) hn (by simp) hf0 hl0 (by simp) ?_, fun e => stop 0 _ _ hf0 hl0 ?_⟩
  · unfold wayN
    rw [if_neg e, unL_0]
    rfl
  · unfold wayN
    rw [if_pos e]
def lastI (w : List Nat) : Int32 := if w.length = 0 then -1 else nI (w.getD (w.length - 1) 0)
theorem sp_placeM {f : Int32 → gp_S → Prop} {n : Nat} (hB : okB B) (hT : okT T) (hw : wM B T h s) (hn : n < bN B) (h1 : ∀ s', fm pWM s s' → f (lastI (wayN (fiN B T h) B n)) s') : cl_X10_placeOf G (N + 5) (nI n) f s := by
  refine sg_X10_placeOf _ (sp_wayM hB hT hw hn (fun s1 hf hl => ?_))
  have hlen := @wayN_len B (fiN B T h) hB n
  have h2 := h1 s1 hf
  unfold lastI at h2
  rw [hl.1]
  generalize hwv : wayN (fiN B T h) B n = w at hl hlen h2
  refine pk_ne w.length 0 (fun e => ?_) (fun e => ?_)
  · rw [if_neg e] at h2
    rw [subI (b := 1) (by omega)]
    refine ⟨vp_in_nI (by omega) (by omega), ?_⟩
    rw [nI_clamp (by omega), hl.2 _ (by omega)]
    exact h2
  · rwa [if_pos e] at h2
end WM
