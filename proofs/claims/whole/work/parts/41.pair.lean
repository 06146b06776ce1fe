/-! both sides: the same answer, and an abstract state that both hold -/
def JJ (s : gp_S) : Prop := ∃ a, okG a ∧ IX a s ∧ IM a s
theorem okL00 {nn : Nat} : okL nn 0 0 := ⟨Nat.two_pow_pos nn, fun j hj => by simp at hj⟩
theorem okP0 {cs : Nat → Nat} : okP 0 cs := ⟨Nat.zero_le _, fun i hi => absurd hi (Nat.not_lt_zero i)⟩
theorem JJ.mk {a : gA} {s : gp_S} (ix : IX a s) (im : IM a s) (ok : okG a) : JJ s := ⟨a, ok, ix, im⟩
section PR
variable {G : gp_G} {N : Nat} {s : gp_S} {x w : Int32} {f : Int32 → Int32 → gp_S → Prop}
theorem pr_letter (j : JJ s) (hf : ∀ r s', JJ s' → f r r s') : cl_X9_letter G (N + 18) x (fun r s1 => cl_X10_letter G (N + 18) x (fun r' s2 => f r r' s2) s1) s := by
  obtain ⟨⟨⟨pl, cs⟩, B, T, h, ⟨L, F⟩, c1, c2, c3⟩, ok, ix, im⟩ := j
  refine xs_letter ok ix (fun c s1 h1 h2 hx hp km ix1 => ?_) (fun c h1 h2 hx hp => ?_) (fun hn => ?_)
  · refine ms_letter ok (im.keep km) (fun c' s2 _ _ hx' _ kx im2 => ?_) (fun c' _ _ _ hp' => absurd hp hp') (fun hn => absurd hx (hn c h1 h2))
    have e := nI_inj (by omega) (by omega) (hx.symm.trans hx')
    subst e
    refine hf _ s2 (JJ.mk (ix1.keep kx) (im2) ⟨⟨hp, fun i hi => ?_⟩, ok.2⟩)
    show va_up cs pl c i < 127
    have hi : i < pl + 1 := hi
    unfold va_up
    split
    · omega
    · exact ok.1.2 i (show i < pl by omega)
  · refine ms_letter ok im (fun c' s2 _ _ hx' hp' kx im2 => absurd hp' hp) (fun c' _ _ _ hp' => hf _ s (JJ.mk (ix) (im) ok)) (fun hn => absurd hx (hn c h1 h2))
  · exact ms_letter ok im (fun c' s2 a b hx' hp' kx im2 => absurd hx' (hn c' a b)) (fun c' a b hx' hp' => absurd hx' (hn c' a b)) (fun _ => hf _ s (JJ.mk (ix) (im) ok))
theorem pr_blank (j : JJ s) (hf : ∀ r s', JJ s' → f r r s') : cl_X9_blank G (N + 18) (fun r s1 => cl_X10_blank G (N + 18) (fun r' s2 => f r r' s2) s1) s := by
  obtain ⟨⟨⟨pl, cs⟩, B, T, h, ⟨L, F⟩, c1, c2, c3⟩, ok, ix, im⟩ := j
  exact xs_blank ix (fun s1 km ix1 => ms_blank (im.keep km) (fun s2 kx im2 => hf _ s2 (JJ.mk (ix1.keep kx) (im2) ⟨okP0, ok.2⟩)))
theorem pr_fault (j : JJ s) (hf : ∀ r s', JJ s' → f r r s') : cl_X9_fault G (N + 18) x (fun r s1 => cl_X10_fault G (N + 18) x (fun r' s2 => f r r' s2) s1) s := by
  obtain ⟨⟨⟨pl, cs⟩, B, T, h, ⟨L, F⟩, c1, c2, c3⟩, ok, ix, im⟩ := j
  refine xs_fault ok ix (fun e k A s1 hk km ix1 => ms_fault ok (im.keep km) (fun _ k' A' s2 hk' kx im2 => ?_) (fun ne => absurd e ne)) (fun e k hk => ms_fault ok im (fun e2 => absurd e2 e) (fun _ k' hk' => ?_))
  · rw [(stopP_one hk hk').1]
    exact hf _ s2 (JJ.mk (ix1.keep kx) (im2) ok)
  · rw [stopF_one hk hk']
    exact hf _ s (JJ.mk (ix) (im) ok)
theorem pr_board (j : JJ s) (hf : ∀ r s', JJ s' → f r r s') : cl_X9_board G (N + 18) (fun r s1 => cl_X10_board G (N + 18) (fun r' s2 => f r r' s2) s1) s := by
  obtain ⟨⟨⟨pl, cs⟩, B, T, h, ⟨L, F⟩, c1, c2, c3⟩, ok, ix, im⟩ := j
  refine xs_board ok ix (fun k A s1 hk hg km ix1 => ?_) (fun k A s1 hk hg km ix1 => ?_)
  · refine ms_board ok (im.keep km) (fun k' A' s2 hk' hg' kx im2 => hf _ s2 (JJ.mk (ix1.keep kx) (im2) ok)) (fun k' A' s2 hk' hg' kx im2 => ?_)
    obtain ⟨e1, e2⟩ := stopP_one hk hk'
    subst e1 e2
    exact absurd hg' hg
  · refine ms_board ok (im.keep km) (fun k' A' s2 hk' hg' kx im2 => ?_) (fun k' A' s2 hk' hg' kx im2 => ?_)
    · obtain ⟨e1, e2⟩ := stopP_one hk hk'
      subst e1 e2
      exact absurd hg hg'
    · obtain ⟨e1, e2⟩ := stopP_one hk hk'
      subst e1 e2
      exact hf _ s2 (JJ.mk (ix1.keep kx) (im2) ⟨okP0, mkB_ok (prs_ok hk.2.1) hg.2.2.2, ok.2.2.1, Or.inl rfl, okL00⟩)
theorem pr_stimulus (j : JJ s) (hf : ∀ r s', JJ s' → f r r s') : cl_X9_stimulus G (N + 18) (fun r s1 => cl_X10_stimulus G (N + 18) (fun r' s2 => f r r' s2) s1) s := by
  obtain ⟨⟨⟨pl, cs⟩, B, T, h, ⟨L, F⟩, c1, c2, c3⟩, ok, ix, im⟩ := j
  refine xs_stimulus ok ix (fun hn => ?_) (fun s1 hk hp km ix1 => ?_)
  · refine ms_stimulus ok im (fun _ => hf _ s (JJ.mk (ix) (im) ok)) (fun s2 hk hp _ _ => ?_)
    have := hn pl hk
    omega
  · refine ms_stimulus ok (im.keep km) (fun hn => ?_) (fun s2 _ _ kx im2 => hf _ s2 (JJ.mk (ix1.keep kx) (im2) ⟨okP0, ok.2.1, stT_ok hk, ok.2.2.2.1, okL00⟩))
    have := hn pl hk
    omega
theorem okH_fl {B : gB} {h : Nat} (hB : okB B) (hh : okH B h) : h < 400 := okH_lt hB hh
theorem pr_hurt (j : JJ s) (hf : ∀ r s', JJ s' → f r r s') : cl_X9_hurt G (N + 18) x (fun r s1 => cl_X10_hurt G (N + 18) x (fun r' s2 => f r r' s2) s1) s := by
  obtain ⟨⟨⟨pl, cs⟩, B, T, h, ⟨L, F⟩, c1, c2, c3⟩, ok, ix, im⟩ := j
  have hB : okB B := ok.2.1
  refine xs_hurt ok ix (fun h' s1 hh hx km ix1 => ?_) (fun hx hn => ?_)
  · refine ms_hurt ok (im.keep km) (fun h2 s2 hh2 hx2 kx im2 => ?_) (fun hx2 hn => ?_)
    · have a1 := okH_lt hB hh
      have a2 := okH_lt hB hh2
      have e := nI_inj (by omega) (by omega) (hx.symm.trans hx2)
      subst e
      exact hf _ s2 (JJ.mk (ix1.keep kx) (im2) ⟨ok.1, ok.2.1, ok.2.2.1, hh, okL00⟩)
    · rcases okH_mem.mp hh with e | e
      · exact absurd (by rw [hx, e]; rfl) hx2
      · obtain ⟨i, hi, e2⟩ := List.mem_iff_getElem.mp e
        refine absurd ?_ (hn i hi)
        rw [hx, List.getD_eq_getElem?_getD, List.getElem?_eq_getElem hi, e2]
        rfl
  · refine ms_hurt ok im (fun h2 s2 hh2 hx2 kx im2 => ?_) (fun hx2 hn => hf _ s (JJ.mk (ix) (im) ok))
    rcases okH_mem.mp hh2 with e | e
    · exact absurd (by rw [hx2, e]; rfl) hx
    · obtain ⟨i, hi, e2⟩ := List.mem_iff_getElem.mp e
      refine absurd ?_ (hn i hi)
      rw [hx2, List.getD_eq_getElem?_getD, List.getElem?_eq_getElem hi, e2]
      rfl
theorem pr_node (j : JJ s) (hf : ∀ r s', JJ s' → f r r s') : cl_X9_node G (N + 18) x w (fun r s1 => cl_X10_node G (N + 18) x w (fun r' s2 => f r r' s2) s1) s := by
  obtain ⟨⟨⟨pl, cs⟩, B, T, h, ⟨L, F⟩, c1, c2, c3⟩, ok, ix, im⟩ := j
  have hN : bN B ≤ 12 := okB.le ok.2.1
  refine xs_node ok ix (fun n y hn hy hx hw => ?_) (fun n hn hx hw => ?_) (fun hn => ?_)
  · refine ms_node ok im (fun n' y' hn' hy' hx' hw' => ?_) (fun n' _ _ hw' => absurd hw (hw' y hy)) (fun hn' => absurd hx (hn' n hn))
    have e1 := nI_inj (by omega) (by omega) (hx.symm.trans hx')
    have e2 := nI_inj (by omega) (by omega) (hw.symm.trans hw')
    subst e1 e2
    exact hf _ s (JJ.mk (ix) (im) ok)
  · exact ms_node ok im (fun n' y' hn' hy' hx' hw' => absurd hw' (hw y' hy')) (fun n' _ _ hw' => hf _ s (JJ.mk (ix) (im) ok)) (fun hn' => absurd hx (hn' n hn))
  · exact ms_node ok im (fun n' y' hn' hy' hx' hw' => absurd hx' (hn n' hn')) (fun n' hn' hx' hw' => absurd hx' (hn n' hn')) (fun hn' => hf _ s (JJ.mk (ix) (im) ok))
theorem pr_shows (j : JJ s) (hf : ∀ r s', JJ s' → f r r s') : cl_X9_shows G (N + 18) x w (fun r s1 => cl_X10_shows G (N + 18) x w (fun r' s2 => f r r' s2) s1) s := by
  obtain ⟨⟨⟨pl, cs⟩, B, T, h, ⟨L, F⟩, c1, c2, c3⟩, ok, ix, im⟩ := j
  have hB : okB B := ok.2.1
  have fin := fun r => hf r s (JJ.mk (ix) (im) ok)
  have uq : ∀ i i', i < nfN B → i' < nfN B → x = nI ((flN B).getD i 0) → x = nI ((flN B).getD i' 0) → i = i' := by
    intro i i' hi hi' e e'
    have a1 := flN_lt hB hi
    have a2 := flN_lt hB hi'
    exact flN_inj hB hi hi' (nI_inj (by omega) (by omega) (e.symm.trans e'))
  refine xs_shows ok ix (fun i hi hx hw => ?_) (fun i hi hx hw => ?_) (fun i hi hx w0 w1 => ?_) (fun hn => ?_)
  · refine ms_shows ok im (fun i' hi' hx' hw' => ?_) (fun i' hi' hx' hw' => ?_) (fun i' hi' hx' w0 w1 => absurd hw w0) (fun hn => absurd hx (hn i hi))
    · rw [uq i i' hi hi' hx hx']; exact fin _
    · rw [hw] at hw'; exact absurd hw' (by decide)
  · refine ms_shows ok im (fun i' hi' hx' hw' => ?_) (fun i' hi' hx' hw' => ?_) (fun i' hi' hx' w0 w1 => absurd hw w1) (fun hn => absurd hx (hn i hi))
    · rw [hw] at hw'; exact absurd hw' (by decide)
    · rw [uq i i' hi hi' hx hx']; exact fin _
  · exact ms_shows ok im (fun i' hi' hx' hw' => absurd hw' w0) (fun i' hi' hx' hw' => absurd hw' w1) (fun i' hi' hx' w0 w1 => fin _) (fun hn => absurd hx (hn i hi))
  · exact ms_shows ok im (fun i' hi' hx' hw' => absurd hx' (hn i' hi')) (fun i' hi' hx' hw' => absurd hx' (hn i' hi')) (fun i' hi' hx' w0 w1 => absurd hx' (hn i' hi')) (fun hn => fin _)
theorem pr_probe (j : JJ s) (hf : ∀ r s', JJ s' → f r r s') : cl_X9_probe G (N + 18) x (fun r s1 => cl_X10_probe G (N + 18) x (fun r' s2 => f r r' s2) s1) s := by
  obtain ⟨⟨⟨pl, cs⟩, B, T, h, ⟨L, F⟩, c1, c2, c3⟩, ok, ix, im⟩ := j
  have hN : bN B ≤ 12 := okB.le ok.2.1
  have hL : okL (bN B) L F := ok.2.2.2.2
  refine xs_probe ok ix (fun n s1 hn hx hb km ix1 => ?_) (fun n hn hx hb => ?_) (fun hn => ?_)
  · refine ms_probe ok (im.keep km) (fun n' s2 hn' hx' _ kx im2 => ?_) (fun n' hn' hx' hb' => ?_) (fun hn' => absurd hx (hn' n hn))
    · have e1 := nI_inj (by omega) (by omega) (hx.symm.trans hx')
      subst e1
      refine hf _ s2 (JJ.mk (ix1.keep kx) (im2) ⟨ok.1, ok.2.1, ok.2.2.1, ok.2.2.2.1, ?_⟩)
      show okL (bN B) (L ||| 2 ^ n) (if badN B T h n then F ||| 2 ^ n else F)
      split
      · exact okL_bad hL hn
      · exact okL_good hL hn
    · have e1 := nI_inj (by omega) (by omega) (hx.symm.trans hx')
      subst e1
      rw [hb] at hb'
      cases hb'
  · refine ms_probe ok im (fun n' s2 hn' hx' hb' kx im2 => ?_) (fun n' hn' hx' hb' => hf _ s (JJ.mk (ix) (im) ok)) (fun hn' => absurd hx (hn' n hn))
    have e1 := nI_inj (by omega) (by omega) (hx.symm.trans hx')
    subst e1
    rw [hb] at hb'
    cases hb'
  · exact ms_probe ok im (fun n' s2 hn' hx' hb' kx im2 => absurd hx' (hn n' hn')) (fun n' hn' hx' hb' => absurd hx' (hn n' hn')) (fun hn' => hf _ s (JJ.mk (ix) (im) ok))
theorem pr_forget (j : JJ s) (hf : ∀ r s', JJ s' → f r r s') : cl_X9_forget G (N + 18) (fun r s1 => cl_X10_forget G (N + 18) (fun r' s2 => f r r' s2) s1) s := by
  obtain ⟨⟨⟨pl, cs⟩, B, T, h, ⟨L, F⟩, c1, c2, c3⟩, ok, ix, im⟩ := j
  exact xs_forget ok ix (fun s1 km ix1 => ms_forget ok (im.keep km) (fun s2 kx im2 => hf _ s2 (JJ.mk (ix1.keep kx) (im2) ⟨ok.1, ok.2.1, ok.2.2.1, ok.2.2.2.1, okL00⟩)))
theorem pr_suspects (j : JJ s) (hf : ∀ r s', JJ s' → f r r s') : cl_X9_suspects G (N + 18) x (fun r s1 => cl_X10_suspects G (N + 18) x (fun r' s2 => f r r' s2) s1) s := by
  obtain ⟨⟨⟨pl, cs⟩, B, T, h, ⟨L, F⟩, c1, c2, c3⟩, ok, ix, im⟩ := j
  refine xs_suspects ok ix (fun y hy hx => ?_) (fun hn => ?_)
  · refine ms_suspects ok im (fun y' s2 hy' hx' hf2 => ?_) (fun hn => absurd hx (hn y hy))
    have e1 := nI_inj (by omega) (by omega) (hx.symm.trans hx')
    subst e1
    exact hf _ s2 (JJ.mk (ix.keep (scr_keep hf2)) (im.scr hf2) ok)
  · exact ms_suspects ok im (fun y' s2 hy' hx' hf2 => absurd hx' (hn y' hy')) (fun hn => hf _ s (JJ.mk (ix) (im) ok))
theorem pr_suspect (j : JJ s) (hf : ∀ r s', JJ s' → f r r s') : cl_X9_suspect G (N + 18) x w (fun r s1 => cl_X10_suspect G (N + 18) x w (fun r' s2 => f r r' s2) s1) s := by
  obtain ⟨⟨⟨pl, cs⟩, B, T, h, ⟨L, F⟩, c1, c2, c3⟩, ok, ix, im⟩ := j
  have hlen : nfN B ≤ 40 := flN_len ok.2.1
  have lt : ∀ i, i < nfN B → fit (bbF B T) L F i = true → fb_ct (fit (bbF B T) L F) i < cntN (bbF B T) (nfN B) L F := by
    intro i hi hp
    have h1 := fb_ct_succ (fit (bbF B T) L F) i
    rw [hp] at h1
    have h2 := fb_ct_mono (fit (bbF B T) L F) (show i + 1 ≤ nfN B by omega)
    unfold cntN
    simp at h1
    omega
  have uq : ∀ i i', i < nfN B → i' < nfN B → fit (bbF B T) L F i = true → fit (bbF B T) L F i' = true → x = nI (fb_ct (fit (bbF B T) L F) i) → x = nI (fb_ct (fit (bbF B T) L F) i') → i = i' := by
    intro i i' hi hi' hp hp' e e'
    have a1 := fb_ct_le (fit (bbF B T) L F) i
    have a2 := fb_ct_le (fit (bbF B T) L F) i'
    exact fb_ct_kth_one hp hp' (nI_inj (by omega) (by omega) (e.symm.trans e'))
  refine xs_suspect ok ix (fun i y hi hp hx hy hw => ?_) (fun i hi hp hx hw => ?_) (fun hn => ?_)
  · refine ms_suspect ok im (fun i' y' s2 hi' hp' hx' hy' hw' hf2 => ?_) (fun i' hi' hp' hx' hw' => absurd hw (hw' y hy)) (fun hn => absurd hx (hn _ (lt i hi hp)))
    have e1 := uq i i' hi hi' hp hp' hx hx'
    have e2 := nI_inj (by omega) (by omega) (hw.symm.trans hw')
    subst e1 e2
    exact hf _ s2 (JJ.mk (ix.keep (scr_keep hf2)) (im.scr hf2) ok)
  · exact ms_suspect ok im (fun i' y' s2 hi' hp' hx' hy' hw' hf2 => absurd hw' (hw y' hy')) (fun i' hi' hp' hx' hw' => hf _ s (JJ.mk (ix) (im) ok)) (fun hn => absurd hx (hn _ (lt i hi hp)))
  · exact ms_suspect ok im (fun i' y' s2 hi' hp' hx' hy' hw' hf2 => absurd hx' (hn _ (lt i' hi' hp'))) (fun i' hi' hp' hx' hw' => absurd hx' (hn _ (lt i' hi' hp'))) (fun hn => hf _ s (JJ.mk (ix) (im) ok))
theorem pr_way (j : JJ s) (hf : ∀ r s', JJ s' → f r r s') : cl_X9_way G (N + 18) x w (fun r s1 => cl_X10_way G (N + 18) x w (fun r' s2 => f r r' s2) s1) s := by
  obtain ⟨⟨⟨pl, cs⟩, B, T, h, ⟨L, F⟩, c1, c2, c3⟩, ok, ix, im⟩ := j
  have hB : okB B := ok.2.1
  have hN : bN B ≤ 12 := okB.le ok.2.1
  refine xs_way ok ix (fun n j s1 hn hx hj hw km ix1 => ?_) (fun n s1 hn hx hj km ix1 => ?_) (fun hn => ?_)
  · refine ms_way ok (im.keep km) (fun n' j' s2 hn' hx' hj' hw' hf2 => ?_) (fun n' s2 hn' hx' hj' hf2 => ?_) (fun hn' => absurd hx (hn' n hn))
    · have e1 := nI_inj (by omega) (by omega) (hx.symm.trans hx')
      subst e1
      have hl := wayN_len (fi := fiN B T h) hB n
      have e2 := nI_inj (by omega) (by omega) (hw.symm.trans hw')
      subst e2
      exact hf _ s2 (JJ.mk (ix1.keep (scr_keep hf2)) ((im.keep km).scr hf2) ok)
    · have e1 := nI_inj (by omega) (by omega) (hx.symm.trans hx')
      subst e1
      exact absurd hw (hj' j hj)
  · refine ms_way ok (im.keep km) (fun n' j' s2 hn' hx' hj' hw' hf2 => ?_) (fun n' s2 hn' hx' hj' hf2 => hf _ s2 (JJ.mk (ix1.keep (scr_keep hf2)) ((im.keep km).scr hf2) ok)) (fun hn' => absurd hx (hn' n hn))
    have e1 := nI_inj (by omega) (by omega) (hx.symm.trans hx')
    subst e1
    exact absurd hw' (hj j' hj')
  · exact ms_way ok im (fun n' j' s2 hn' hx' hj' hw' hf2 => absurd hx' (hn n' hn')) (fun n' s2 hn' hx' hj' hf2 => absurd hx' (hn n' hn')) (fun hn' => hf _ s (JJ.mk (ix) (im) ok))
theorem pr_place (j : JJ s) (hf : ∀ r s', JJ s' → f r r s') : cl_X9_place G (N + 18) x (fun r s1 => cl_X10_place G (N + 18) x (fun r' s2 => f r r' s2) s1) s := by
  obtain ⟨⟨⟨pl, cs⟩, B, T, h, ⟨L, F⟩, c1, c2, c3⟩, ok, ix, im⟩ := j
  have hN : bN B ≤ 12 := okB.le ok.2.1
  refine xs_place ok ix (fun n s1 hn hx km ix1 => ?_) (fun hn => ?_)
  · refine ms_place ok (im.keep km) (fun n' s2 hn' hx' hf2 => ?_) (fun hn' => absurd hx (hn' n hn))
    have e1 := nI_inj (by omega) (by omega) (hx.symm.trans hx')
    subst e1
    exact hf _ s2 (JJ.mk (ix1.keep (scr_keep hf2)) ((im.keep km).scr hf2) ok)
  · exact ms_place ok im (fun n' s2 hn' hx' hf2 => absurd hx' (hn n' hn')) (fun hn' => hf _ s (JJ.mk (ix) (im) ok))
theorem pr_count (j : JJ s) (hf : ∀ r s', JJ s' → f r r s') : cl_X9_count G (N + 18) x (fun r s1 => cl_X10_count G (N + 18) x (fun r' s2 => f r r' s2) s1) s := by
  obtain ⟨⟨⟨pl, cs⟩, B, T, h, ⟨L, F⟩, c1, c2, c3⟩, ok, ix, im⟩ := j
  refine xs_count ok ix (fun y hy hx => ?_) (fun hn => ?_)
  · refine ms_count ok im (fun y' hy' hx' => ?_) (fun hn => absurd hx (hn y hy))
    have e1 := nI_inj (by omega) (by omega) (hx.symm.trans hx')
    subst e1
    exact hf _ s (JJ.mk (ix) (im) ok)
  · exact ms_count ok im (fun y' hy' hx' => absurd hx' (hn y' hy')) (fun hn => hf _ s (JJ.mk (ix) (im) ok))
theorem pr_digest {f : Int64 → Int64 → gp_S → Prop} (j : JJ s) (hf : ∀ r s', JJ s' → f r r s') : cl_X9_digest G (N + 18) (fun r s1 => cl_X10_digest G (N + 18) (fun r' s2 => f r r' s2) s1) s := by
  obtain ⟨⟨⟨pl, cs⟩, B, T, h, ⟨L, F⟩, c1, c2, c3⟩, ok, ix, im⟩ := j
  exact xs_digest ok ix (fun s1 km ix1 => ms_digest ok (im.keep km) (fun s2 hf2 => hf _ s2 (JJ.mk (ix1.keep (scr_keep hf2)) ((im.keep km).scr hf2) ok)))
end PR
