def dgI (h : Int64) (v : Int32) : Int64 := 31 * h + v.toInt64
def dgY (V : Nat → Int32) : Nat → Int64 → Int64
  | 0, h => h
  | y + 1, h => dgI (dgY V y h) (V y)
def dgN (B : gB) (T : gT) (h L F : Nat) : Nat → Int64 → Int64
  | 0, d => d
  | n + 1, d => dgI (dgY (ndV B T h L F n) 10 (dgN B T h L F n d)) (lastI (wayN (fiN B T h) B n))
def dgF (B : gB) (T : gT) : Nat → Int64 → Int64
  | 0, d => d
  | i + 1, d => dgI (dgI (dgI (dgF B T i d) (nI ((flN B).getD i 0))) (nI (bbF B T i))) (nI (uuF B T i))
def dgS (B : gB) (T : gT) (L F : Nat) : Nat → Int64 → Int64
  | 0, d => d
  | i + 1, d => if fit (bbF B T) L F i then dgY (spV B T L F i) 3 (dgS B T L F i d) else dgS B T L F i d
def dgA (pl : Nat) (cs : Nat → Nat) (B : gB) (T : gT) (h L F : Nat) (c1 c2 c3 : Int32) : Int64 :=
  dgY (ctV pl B T h L c1 c2 c3) 10 (dgY (fun i => nI (cs i)) pl (dgS B T L F (nfN B) (dgY (suV B T L F) 5 (dgF B T (nfN B) (dgN B T h L F (bN B) 1657)))))
theorem dgS_add {B : gB} {T : gT} {L F i : Nat} {d : Int64} : ∀ e, fb_ct (fit (bbF B T) L F) (i + e) = fb_ct (fit (bbF B T) L F) i → dgS B T L F (i + e) d = dgS B T L F i d
  | 0, _ => rfl
  | e + 1, h => by
    have h1 := fb_ct_succ (fit (bbF B T) L F) (i + e)
    have h2 := fb_ct_step (fit (bbF B T) L F) i e
    have h3 : fb_ct (fit (bbF B T) L F) (i + e + 1) = fb_ct (fit (bbF B T) L F) i := h
    have hp : fit (bbF B T) L F (i + e) = false := by
      cases hq : fit (bbF B T) L F (i + e) with
      | false => rfl
      | true => rw [hq] at h1; simp at h1; omega
    rw [hp] at h1
    simp at h1
    show (if fit (bbF B T) L F (i + e) then _ else dgS B T L F (i + e) d) = _
    rw [hp]
    exact dgS_add e (by omega)
theorem dgS_same {B : gB} {T : gT} {L F i j : Nat} {d : Int64} (h : fb_ct (fit (bbF B T) L F) i = fb_ct (fit (bbF B T) L F) j) : dgS B T L F i d = dgS B T L F j d := by
  by_cases e : i ≤ j
  · have e2 : j = i + (j - i) := by omega
    rw [e2] at h ⊢
    exact (dgS_add (j - i) h.symm).symm
  · have e2 : i = j + (i - j) := by omega
    rw [e2] at h ⊢
    exact dgS_add (i - j) h
section DX
variable {G : gp_G} {N : Nat} {s : gp_S} {pl : Nat} {cs : Nat → Nat} {B : gB} {T : gT} {h L F : Nat} {c1 c2 c3 : Int32} {f : Int64 → gp_S → Prop} {d : Int64}
theorem xs_dgN (ok : okG ((pl, cs), B, T, h, (L, F), c1, c2, c3)) (ix : IX ((pl, cs), B, T, h, (L, F), c1, c2, c3) s) (h1 : ∀ s', keepM s s' → IX ((pl, cs), B, T, h, (L, F), c1, c2, c3) s' → f (dgN B T h L F (bN B) d) s') : cl_X9_digestNodes G (N + 5) d f s := by
  have hN : bN B ≤ 12 := okB.le ok.2.1
  have key : ∀ (m n : Nat) (s1 : gp_S), n + m = bN B → keepM s s1 → IX ((pl, cs), B, T, h, (L, F), c1, c2, c3) s1 → at_X9_digestNodes_5 G (N + 5) d (dgN B T h L F n d) (nI n) f s1 := by
    intro m
    induction m with
    | zero =>
      intro n s1 hn km ix1
      refine sg_X9_digestNodes_5 _ _ _ ?_
      rw [show s1.1 3 3 = nI (bN B) from ix1.2.1.2.1]
      exact pk_le (bN B) n (fun _ => by have e : n = bN B := by omega
                                        rw [e]; exact h1 s1 km ix1) (fun q => absurd q (by omega))
    | succ m ih =>
      intro n s1 hn km ix1
      refine sg_X9_digestNodes_5 _ _ _ ?_
      rw [show s1.1 3 3 = nI (bN B) from ix1.2.1.2.1]
      refine pk_le (bN B) n (fun q => absurd q (by omega)) (fun _ => ?_)
      have inner : ∀ (e y : Nat), y + e = 10 → at_X9_digestNodes_20 G (N + 5) d (dgY (ndV B T h L F n) y (dgN B T h L F n d)) (nI n) (nI y) f s1 := by
        intro e
        induction e with
        | zero =>
          intro y hy
          refine sg_X9_digestNodes_20 _ _ _ _ ?_
          rw [nI_1 n]
          refine pk_lt 9 y (fun _ => xs_place ok ix1 (fun n' s2 hn' e2 km2 ix2 => ?_) (fun hn' => absurd rfl (hn' n (by omega)))) (fun q => absurd q (by omega))
          have e3 := nI_inj (by omega) (by omega) e2
          have e4 : y = 10 := by omega
          subst e3 e4
          exact ih (n + 1) s2 (by omega) (km.trans km2) ix2
        | succ e ihe =>
          intro y hy
          refine sg_X9_digestNodes_20 _ _ _ _ ?_
          rw [nI_1 y]
          refine pk_lt 9 y (fun q => absurd q (by omega)) (fun _ => xs_node (N := N + 2) ok ix1 (fun n' y' hn' hy' e2 e5 => ?_) (fun n' _ _ hy' => absurd rfl (hy' y (by omega))) (fun hn' => absurd rfl (hn' n (by omega))))
          have e3 := nI_inj (by omega) (by omega) e2
          have e4 := nI_inj (by omega) (by omega) e5
          subst e3 e4
          exact ihe (y + 1) (by omega)
      exact inner 10 0 rfl
  exact sg_X9_digestNodes _ (key (bN B) 0 s (by omega) keepM.rfl ix)
theorem xs_dgF (ok : okG ((pl, cs), B, T, h, (L, F), c1, c2, c3)) (ix : IX ((pl, cs), B, T, h, (L, F), c1, c2, c3) s) (h1 : f (dgF B T (nfN B) d) s) : cl_X9_digestFaults G N d f s := by
  have hlen : nfN B ≤ 40 := flN_len ok.2.1
  have hl : lst s 21 (s.1 20 3) (flN B) := ix.2.2.2.2.2.2.2.1
  have hs : shX B T s := ix.2.2.2.2.2.2.2.2.1
  have key : ∀ (m i : Nat), i + m = nfN B → at_X9_digestFaults_5 G N d (dgF B T i d) (nI i) f s := by
    intro m
    induction m with
    | zero =>
      intro i hi
      refine sg_X9_digestFaults_5 _ _ _ ?_
      rw [show s.1 20 3 = nI (nfN B) from hl.1]
      exact pk_le (nfN B) i (fun _ => by have e : i = nfN B := by omega
                                         rw [e]; exact h1) (fun q => absurd q (by omega))
    | succ m ih =>
      intro i hi
      refine sg_X9_digestFaults_5 _ _ _ ?_
      have hin : vp_in (nI i) 40 := vp_in_nI (by omega) (by omega)
      have hil : i < nfN B := by omega
      rw [show s.1 20 3 = nI (nfN B) from hl.1, nI_clamp (show i < 2 ^ 31 by omega), hl.2 i hil, (hs i hil).1, (hs i hil).2, nI_1]
      exact pk_le (nfN B) i (fun q => absurd q (by omega)) (fun _ => ⟨hin, hin, hin, ih (i + 1) (by omega)⟩)
  exact sg_X9_digestFaults _ (key (nfN B) 0 (by omega))
theorem xs_dgS (ok : okG ((pl, cs), B, T, h, (L, F), c1, c2, c3)) (ix : IX ((pl, cs), B, T, h, (L, F), c1, c2, c3) s) (h1 : f (dgS B T L F (nfN B) d) s) : cl_X9_digestSuspects G (N + 1) d f s := by
  have hlen : nfN B ≤ 40 := flN_len ok.2.1
  have hs : suX (bbF B T) (nfN B) (bN B) L F s := ix.2.2.2.2.2.2.2.2.2.2.2.1
  have hct : fb_ct (fit (bbF B T) L F) (nfN B) ≤ nfN B := fb_ct_le _ _
  have key : ∀ (m j i : Nat), j + m = fb_ct (fit (bbF B T) L F) (nfN B) → i ≤ nfN B → fb_ct (fit (bbF B T) L F) i = j → at_X9_digestSuspects_5 G (N + 1) d (dgS B T L F i d) (nI j) f s := by
    intro m
    induction m with
    | zero =>
      intro j i hj hi hc
      refine sg_X9_digestSuspects_5 _ _ _ ?_
      rw [hs.1.1]
      refine pk_le (fb_ct (fit (bbF B T) L F) (nfN B)) j (fun _ => ?_) (fun q => absurd q (by omega))
      rw [dgS_same (j := nfN B) (by omega)]
      exact h1
    | succ m ih =>
      intro j i hj hi hc
      refine sg_X9_digestSuspects_5 _ _ _ ?_
      rw [hs.1.1]
      refine pk_le (fb_ct (fit (bbF B T) L F) (nfN B)) j (fun q => absurd q (by omega)) (fun q => ?_)
      obtain ⟨i2, hi2, hp2, hc2⟩ := fb_ct_kth q
      rw [dgS_same (j := i2) (by omega)]
      have inner : ∀ (e y : Nat), y + e = 3 → at_X9_digestSuspects_20 G (N + 1) d (dgY (spV B T L F i2) y (dgS B T L F i2 d)) (nI j) (nI y) f s := by
        intro e
        induction e with
        | zero =>
          intro y hy
          refine sg_X9_digestSuspects_20 _ _ _ _ ?_
          rw [nI_1 j]
          refine pk_lt 2 y (fun _ => ?_) (fun q => absurd q (by omega))
          have e4 : y = 3 := by omega
          subst e4
          have hsu := fb_ct_succ (fit (bbF B T) L F) i2
          rw [hp2] at hsu
          have := ih (j + 1) (i2 + 1) (by omega) (by omega) (by simp at hsu; omega)
          rw [show dgS B T L F (i2 + 1) d = if fit (bbF B T) L F i2 then dgY (spV B T L F i2) 3 (dgS B T L F i2 d) else dgS B T L F i2 d from rfl, hp2, if_pos rfl] at this
          exact this
        | succ e ihe =>
          intro y hy
          refine sg_X9_digestSuspects_20 _ _ _ _ ?_
          rw [nI_1 y]
          refine pk_lt 2 y (fun q => absurd q (by omega)) (fun _ => xs_suspect ok ix (fun i3 y' hi3 hp3 e2 hy' e5 => ?_) (fun i3 _ _ _ hy' => absurd rfl (hy' y (by omega))) (fun hn' => absurd rfl (hn' j (by unfold cntN; omega))))
          have hc3 := fb_ct_le (fit (bbF B T) L F) i3
          have e3 := nI_inj (by omega) (by omega) e2
          have e4 := nI_inj (by omega) (by omega) e5
          have e6 : i2 = i3 := fb_ct_kth_one hp2 hp3 (by omega)
          subst e4 e6
          exact ihe (y + 1) (by omega)
      exact inner 3 0 rfl
  exact sg_X9_digestSuspects _ (key (fb_ct (fit (bbF B T) L F) (nfN B)) 0 0 (by omega) (by omega) rfl)
theorem xs_digest (ok : okG ((pl, cs), B, T, h, (L, F), c1, c2, c3)) (ix : IX ((pl, cs), B, T, h, (L, F), c1, c2, c3) s) (h1 : ∀ s', keepM s s' → IX ((pl, cs), B, T, h, (L, F), c1, c2, c3) s' → f (dgA pl cs B T h L F c1 c2 c3) s') : cl_X9_digest G (N + 6) f s := by
  have hpl : pl ≤ 40 := ok.1.1
  refine sg_X9_digest (xs_dgN ok ix (fun s1 km1 ix1 => xs_dgF ok ix1 ?_))
  have k3 : ∀ (m y : Nat) (D : Int64), y + m = 10 → dgY (ctV pl B T h L c1 c2 c3) y D = dgY (ctV pl B T h L c1 c2 c3) y D → f (dgY (ctV pl B T h L c1 c2 c3) 10 D) s1 → at_X9_digest_84 G (N + 6) (dgY (ctV pl B T h L c1 c2 c3) y D) (nI y) f s1 := by
    intro m
    induction m with
    | zero =>
      intro y D hy _ hf
      refine sg_X9_digest_84 _ _ (pk_lt 9 y (fun _ => ?_) (fun q => absurd q (by omega)))
      have e4 : y = 10 := by omega
      subst e4
      exact hf
    | succ m ih =>
      intro y D hy _ hf
      refine sg_X9_digest_84 _ _ ?_
      rw [nI_1 y]
      refine pk_lt 9 y (fun q => absurd q (by omega)) (fun _ => xs_count ok ix1 (fun y' hy' e => ?_) (fun hy' => absurd rfl (hy' y (by omega))))
      have e4 := nI_inj (by omega) (by omega) e
      subst e4
      exact ih (y + 1) D (by omega) rfl hf
  have k2 : ∀ (m i : Nat) (D : Int64), i + m = pl → f (dgY (ctV pl B T h L c1 c2 c3) 10 (dgY (fun i => nI (cs i)) pl D)) s1 → at_X9_digest_48 G (N + 6) (dgY (fun i => nI (cs i)) i D) (nI i) f s1 := by
    intro m
    induction m with
    | zero =>
      intro i D hi hf
      refine sg_X9_digest_48 _ _ ?_
      rw [show s1.1 1 1 = nI pl from ix1.1.1]
      refine pk_le pl i (fun _ => ?_) (fun q => absurd q (by omega))
      have e4 : i = pl := by omega
      subst e4
      exact k3 10 0 _ rfl rfl hf
    | succ m ih =>
      intro i D hi hf
      refine sg_X9_digest_48 _ _ ?_
      rw [show s1.1 1 1 = nI pl from ix1.1.1, nI_clamp (show i < 2 ^ 31 by omega), ix1.1.2 i (show i < pl by omega), nI_1]
      exact pk_le pl i (fun q => absurd q (by omega)) (fun _ => ⟨vp_in_nI (by omega) (by omega), ih (i + 1) D (by omega) hf⟩)
  have k1 : ∀ (m y : Nat), y + m = 5 → at_X9_digest_16 G (N + 6) (dgY (suV B T L F) y (dgF B T (nfN B) (dgN B T h L F (bN B) 1657))) (nI y) f s1 := by
    intro m
    induction m with
    | zero =>
      intro y hy
      refine sg_X9_digest_16 _ _ (pk_lt 4 y (fun _ => ?_) (fun q => absurd q (by omega)))
      have e4 : y = 5 := by omega
      subst e4
      exact xs_dgS ok ix1 (k2 pl 0 _ (by omega) (h1 s1 km1 ix1))
    | succ m ih =>
      intro y hy
      refine sg_X9_digest_16 _ _ ?_
      rw [nI_1 y]
      refine pk_lt 4 y (fun q => absurd q (by omega)) (fun _ => xs_suspects (N := N + 3) ok ix1 (fun y' hy' e => ?_) (fun hy' => absurd rfl (hy' y (by omega))))
      have e4 := nI_inj (by omega) (by omega) e
      subst e4
      exact ih (y + 1) (by omega)
  exact k1 5 0 rfl
end DX
section DM
variable {G : gp_G} {N : Nat} {s s' : gp_S} {pl : Nat} {cs : Nat → Nat} {B : gB} {T : gT} {h L F : Nat} {c1 c2 c3 : Int32} {f : Int64 → gp_S → Prop} {d : Int64}
theorem sp_mix {f : gp_S → Prop} {v : Int32} (hd : s.2 34 37 = d) (h1 : ∀ s', fm pSc s s' → s'.2 34 37 = dgI d v → f s') : cl_X10_mix G N v.toInt64 f s := by
  refine sg_X10_mix _ (h1 _ (fm_rfl.uj 34 37 _) ?_)
  rw [uj_at, if_pos ⟨rfl, rfl⟩, hd]
  rfl
theorem ms_mixS {f : gp_S → Prop} (ok : okG ((pl, cs), B, T, h, (L, F), c1, c2, c3)) (im : IM ((pl, cs), B, T, h, (L, F), c1, c2, c3) s) (hd : s.2 34 37 = d) (h1 : ∀ s', fm pSc s s' → s'.2 34 37 = dgS B T L F (nfN B) (dgY (suV B T L F) 5 d) → f s') : cl_X10_mixSuspects G (N + 6) f s := by
  have hlen : nfN B ≤ 40 := flN_len ok.2.1
  have hN : bN B ≤ 12 := okB.le ok.2.1
  have hL : okL (bN B) L F := ok.2.2.2.2
  obtain ⟨hL12, hF12⟩ := hL.lt hN
  have hb : ∀ i, i < nfN B → bbF B T i < 2 ^ 12 := fun i _ => bbF_lt12 ok.2.1 i
  have k2 : ∀ (m i : Nat) (s1 : gp_S), i + m = nfN B → fm pSc s s1 → s1.2 34 37 = dgS B T L F i (dgY (suV B T L F) 5 d) → at_X10_mixSuspects_25 G (N + 6) (nI i) f s1 := by
    intro m
    induction m with
    | zero =>
      intro i s1 hi hf1 hd1
      have im1 := im.scr hf1
      refine sg_X10_mixSuspects_25 _ ?_
      rw [show s1.1 34 26 = nI (nfN B) from im1.2.2.2.2.2.2.1.1]
      refine pk_le (nfN B) i (fun _ => h1 s1 hf1 ?_) (fun q => absurd q (by omega))
      rw [hd1, show i = nfN B from by omega]
    | succ m ih =>
      intro i s1 hi hf1 hd1
      have im1 := im.scr hf1
      refine sg_X10_mixSuspects_25 _ ?_
      rw [show s1.1 34 26 = nI (nfN B) from im1.2.2.2.2.2.2.1.1, show s1.1 34 9 = nI L from im1.2.2.2.1.2.2.2.2.1, show s1.1 34 10 = nI F from im1.2.2.2.1.2.2.2.2.2, nI_1 i]
      refine pk_le (nfN B) i (fun q => absurd q (by omega)) (fun _ => sp_fitsM (bb := bbF B T) (nf := nfN B) (nn := bN B) hlen hb hL12 hF12 im1.sM (by omega) ?_)
      cases hp : fit (bbF B T) L F i with
      | false =>
        refine ⟨fun _ => ih (i + 1) s1 (by omega) hf1 ?_, fun q => absurd rfl q⟩
        rw [hd1]
        show _ = if fit (bbF B T) L F i then _ else _
        rw [hp]; rfl
      | true =>
        refine ⟨fun q => absurd q (by decide), fun _ => ?_⟩
        have inner : ∀ (e y : Nat) (s2 : gp_S), y + e = 3 → fm pSc s s2 → s2.2 34 37 = dgY (spV B T L F i) y (dgS B T L F i (dgY (suV B T L F) 5 d)) → at_X10_mixSuspects_51 G (N + 6) (nI i) (nI y) f s2 := by
          intro e
          induction e with
          | zero =>
            intro y s2 hy hf2 hd2
            refine sg_X10_mixSuspects_51 _ _ ?_
            rw [nI_1 i]
            refine pk_le 3 y (fun _ => ih (i + 1) s2 (by omega) hf2 ?_) (fun q => absurd q (by omega))
            rw [hd2, show y = 3 from by omega]
            show _ = if fit (bbF B T) L F i then _ else _
            rw [hp]; rfl
          | succ e ihe =>
            intro y s2 hy hf2 hd2
            refine sg_X10_mixSuspects_51 _ _ ?_
            rw [nI_1 y]
            refine pk_le 3 y (fun q => absurd q (by omega)) (fun _ => ms_suspectNow (N := N + 1) ok (im.scr hf2) (by omega) ⟨y, by omega, rfl⟩ (fun y' s3 hy' e5 hf3 => ?_))
            have e4 := nI_inj (by omega) (by omega) e5
            subst e4
            have hd3 : s3.2 34 37 = _ := (hf3.j 34 37).trans hd2
            refine sp_mix hd3 (fun s4 hf4 hd4 => ihe (y + 1) s4 (by omega) ((hf2.trans (lr_sc hf3)).trans hf4) hd4)
        exact inner 3 0 s1 rfl hf1 hd1
  have k1 : ∀ (m y : Nat) (s1 : gp_S), y + m = 5 → fm pSc s s1 → s1.2 34 37 = dgY (suV B T L F) y d → at_X10_mixSuspects_2 G (N + 6) (nI y) f s1 := by
    intro m
    induction m with
    | zero =>
      intro y s1 hy hf1 hd1
      refine sg_X10_mixSuspects_2 _ (pk_le 5 y (fun _ => ?_) (fun q => absurd q (by omega)))
      have e4 : y = 5 := by omega
      subst e4
      exact k2 (nfN B) 0 s1 (by omega) hf1 hd1
    | succ m ih =>
      intro y s1 hy hf1 hd1
      refine sg_X10_mixSuspects_2 _ ?_
      rw [nI_1 y]
      refine pk_le 5 y (fun q => absurd q (by omega)) (fun _ => ms_suspectsNow ok (im.scr hf1) ⟨y, by omega, rfl⟩ (fun y' s3 hy' e5 hf3 => ?_))
      have e4 := nI_inj (by omega) (by omega) e5
      subst e4
      have hd3 : s3.2 34 37 = _ := (hf3.j 34 37).trans hd1
      refine sp_mix hd3 (fun s4 hf4 hd4 => ih (y + 1) s4 (by omega) ((hf1.trans (ls_sc hf3)).trans hf4) hd4)
  exact sg_X10_mixSuspects (k1 5 0 s rfl fm_rfl hd)
theorem ms_digest (ok : okG ((pl, cs), B, T, h, (L, F), c1, c2, c3)) (im : IM ((pl, cs), B, T, h, (L, F), c1, c2, c3) s) (h1 : ∀ s', fm pSc s s' → f (dgA pl cs B T h L F c1 c2 c3) s') : cl_X10_digest G (N + 7) f s := by
  have hpl : pl ≤ 40 := ok.1.1
  have hB : okB B := ok.2.1
  have hT : okT T := ok.2.2.1
  have hN : bN B ≤ 12 := okB.le ok.2.1
  have hlen : nfN B ≤ 40 := flN_len ok.2.1
  have k4 : ∀ (m y : Nat) (D : Int64) (s1 : gp_S), y + m = 10 → D = dgY (fun i => nI (cs i)) pl (dgS B T L F (nfN B) (dgY (suV B T L F) 5 (dgF B T (nfN B) (dgN B T h L F (bN B) 1657)))) → fm pSc s s1 → s1.2 34 37 = dgY (ctV pl B T h L c1 c2 c3) y D → at_X10_digest_140 G (N + 7) (nI y) f s1 := by
    intro m
    induction m with
    | zero =>
      intro y D s1 hy hD hf1 hd1
      refine sg_X10_digest_140 _ (pk_le 10 y (fun _ => ?_) (fun q => absurd q (by omega)))
      have e4 : y = 10 := by omega
      subst e4
      rw [hd1, hD]
      exact h1 s1 hf1
    | succ m ih =>
      intro y D s1 hy hD hf1 hd1
      refine sg_X10_digest_140 _ ?_
      rw [nI_1 y]
      refine pk_le 10 y (fun q => absurd q (by omega)) (fun _ => ms_howMany (N := N + 5) ok (im.scr hf1) (fun y' hy' e => ?_) (fun hy' => absurd rfl (hy' y (by omega))))
      have e4 := nI_inj (by omega) (by omega) e
      subst e4
      exact sp_mix hd1 (fun s4 hf4 hd4 => ih (y + 1) D s4 (by omega) hD (hf1.trans hf4) hd4)
  have k3 : ∀ (m i : Nat) (s1 : gp_S), i + m = pl → fm pSc s s1 → s1.2 34 37 = dgY (fun i => nI (cs i)) i (dgS B T L F (nfN B) (dgY (suV B T L F) 5 (dgF B T (nfN B) (dgN B T h L F (bN B) 1657)))) → at_X10_digest_113 G (N + 7) (nI i) f s1 := by
    intro m
    induction m with
    | zero =>
      intro i s1 hi hf1 hd1
      have im1 := im.scr hf1
      refine sg_X10_digest_113 _ ?_
      rw [show s1.1 34 0 = nI pl from im1.1.1]
      refine pk_le pl i (fun _ => ?_) (fun q => absurd q (by omega))
      have e4 : i = pl := by omega
      subst e4
      exact k4 10 0 _ s1 rfl rfl hf1 hd1
    | succ m ih =>
      intro i s1 hi hf1 hd1
      have im1 := im.scr hf1
      refine sg_X10_digest_113 _ ?_
      rw [show s1.1 34 0 = nI pl from im1.1.1, nI_clamp (show i < 2 ^ 31 by omega), im1.1.2 i (show i < pl by omega), nI_1]
      exact pk_le pl i (fun q => absurd q (by omega)) (fun _ => ⟨vp_in_nI (by omega) (by omega), sp_mix hd1 (fun s4 hf4 hd4 => ih (i + 1) s4 (by omega) (hf1.trans hf4) hd4)⟩)
  have k2 : ∀ (m i : Nat) (s1 : gp_S), i + m = nfN B → fm pSc s s1 → s1.2 34 37 = dgF B T i (dgN B T h L F (bN B) 1657) → at_X10_digest_60 G (N + 7) (nI i) f s1 := by
    intro m
    induction m with
    | zero =>
      intro i s1 hi hf1 hd1
      have im1 := im.scr hf1
      refine sg_X10_digest_60 _ ?_
      rw [show s1.1 34 26 = nI (nfN B) from im1.2.2.2.2.2.2.1.1]
      refine pk_le (nfN B) i (fun _ => ?_) (fun q => absurd q (by omega))
      have e4 : i = nfN B := by omega
      subst e4
      exact ms_mixS ok im1 hd1 (fun s4 hf4 hd4 => k3 pl 0 s4 (by omega) (hf1.trans hf4) hd4)
    | succ m ih =>
      intro i s1 hi hf1 hd1
      have im1 := im.scr hf1
      have hin : vp_in (nI i) 40 := vp_in_nI (by omega) (by omega)
      have hil : i < nfN B := by omega
      refine sg_X10_digest_60 _ ?_
      rw [show s1.1 34 26 = nI (nfN B) from im1.2.2.2.2.2.2.1.1, nI_clamp (show i < 2 ^ 31 by omega), im1.2.2.2.2.2.2.1.2 i hil, nI_1]
      refine pk_le (nfN B) i (fun q => absurd q (by omega)) (fun _ => ⟨hin, sp_mix hd1 (fun s2 hf2 hd2 => ⟨hin, ?_⟩)⟩)
      have im2 := im1.scr hf2
      rw [(im2.2.2.2.2.2.2.2 i hil).1]
      refine sp_mix hd2 (fun s3 hf3 hd3 => ⟨hin, ?_⟩)
      have im3 := im2.scr hf3
      rw [(im3.2.2.2.2.2.2.2 i hil).2]
      exact sp_mix hd3 (fun s4 hf4 hd4 => ih (i + 1) s4 (by omega) (((hf1.trans hf2).trans hf3).trans hf4) hd4)
  have k1 : ∀ (m n : Nat) (s1 : gp_S), n + m = bN B → fm pSc s s1 → s1.2 34 37 = dgN B T h L F n 1657 → at_X10_digest_9 G (N + 7) (nI n) f s1 := by
    intro m
    induction m with
    | zero =>
      intro n s1 hn hf1 hd1
      have im1 := im.scr hf1
      refine sg_X10_digest_9 _ ?_
      rw [show s1.1 34 3 = nI (bN B) from im1.2.1.2.1]
      refine pk_le (bN B) n (fun _ => ?_) (fun q => absurd q (by omega))
      have e4 : n = bN B := by omega
      rw [e4] at hd1
      exact k2 (nfN B) 0 s1 (by omega) hf1 hd1
    | succ m ih =>
      intro n s1 hn hf1 hd1
      have im1 := im.scr hf1
      refine sg_X10_digest_9 _ ?_
      rw [show s1.1 34 3 = nI (bN B) from im1.2.1.2.1]
      refine pk_le (bN B) n (fun q => absurd q (by omega)) (fun _ => ?_)
      have inner : ∀ (e y : Nat) (s2 : gp_S), y + e = 10 → fm pSc s s2 → s2.2 34 37 = dgY (ndV B T h L F n) y (dgN B T h L F n 1657) → at_X10_digest_19 G (N + 7) (nI n) (nI y) f s2 := by
        intro e
        induction e with
        | zero =>
          intro y s2 hy hf2 hd2
          have im2 := im.scr hf2
          refine sg_X10_digest_19 _ _ ?_
          rw [nI_1 n]
          refine pk_le 10 y (fun _ => sp_placeM (N := N + 1) (B := B) (T := T) (h := h) hB hT im2.wM (by omega) (fun s3 hf3 => ?_)) (fun q => absurd q (by omega))
          have hd3 : s3.2 34 37 = _ := (hf3.j 34 37).trans hd2
          have e4 : y = 10 := by omega
          subst e4
          exact sp_mix hd3 (fun s4 hf4 hd4 => ih (n + 1) s4 (by omega) ((hf2.trans (wm_sc hf3)).trans hf4) hd4)
        | succ e ihe =>
          intro y s2 hy hf2 hd2
          have im2 := im.scr hf2
          refine sg_X10_digest_19 _ _ ?_
          rw [nI_1 y]
          refine pk_le 10 y (fun q => absurd q (by omega)) (fun _ => ms_nodeNow (N := N + 4) ok im2 (by omega) ⟨y, by omega, rfl⟩ (fun y' hy' e5 => ?_))
          have e4 := nI_inj (by omega) (by omega) e5
          subst e4
          exact sp_mix hd2 (fun s4 hf4 hd4 => ihe (y + 1) s4 (by omega) (hf2.trans hf4) hd4)
      exact inner 10 0 s1 rfl hf1 hd1
  exact sg_X10_digest (k1 (bN B) 0 _ (by omega) (fm_rfl.uj 34 37 _) (by rw [uj_at, if_pos ⟨rfl, rfl⟩]; rfl))
end DM
