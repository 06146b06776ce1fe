theorem bM.fr {B : gB} {s s' : gp_S} {l : List Nat} (hb : bM B s) (hf : fr l s s') (h3 : 34 ∉ l := by decide) (h4 : 36 ∉ l := by decide) (h5 : 37 ∉ l := by decide) : bM B s' := by
  unfold bM
  rw [hf.i 34 h3, hf.i 36 h4, hf.i 37 h5]
  exact hb
theorem tM.fr {T : gT} {s s' : gp_S} {l : List Nat} (hb : tM T s) (hf : fr l s s') (h3 : 34 ∉ l := by decide) (h4 : 38 ∉ l := by decide) : tM T s' := by
  unfold tM
  rw [hf.i 34 h3, hf.i 38 h4]
  exact hb
section SM
variable {G : gp_G} {N : Nat} {B : gB} {T : gT} {h t n p : Nat} {s : gp_S} {v a : Nat → Nat}
theorem sp_stuckM {f : Int32 → gp_S → Prop} (hB : okB B) (hh : okH B h) (hn : n < bN B) (h1 : f (if h = 100 + 2 * n ∨ h = 200 + 2 * n then 1 else 0) s) : cl_X10_isStuck G N (nI h) (nI n) f s := by
  have h12 := hB.le
  have h4 := okH_lt hB hh
  refine sg_X10_isStuck _ _ ?_
  rw [show (100 : Int32) = nI 100 from rfl, pk_rem (by omega) (by omega) (by omega), mulI (b := 2)]
  refine pk_le h 0 (fun e => ?_) (fun e => pk_le 300 h (fun e2 => ?_) (fun e2 => pk_ne (h % 100) (2 * n) (fun e3 => ?_) (fun e3 => ?_)))
  · rwa [if_neg (by omega)] at h1
  · rwa [if_neg (by omega)] at h1
  · rwa [if_neg (by omega)] at h1
  · rw [if_pos] at h1
    · exact h1
    · rcases hh with q | ⟨m, h2, q⟩ | ⟨m, h2, q⟩ | ⟨m, p, h2, h3, q⟩ <;> omega
theorem sp_pinM {f : Int32 → gp_S → Prop} {y z : Int32} (hB : okB B) (hh : h < 400) (hb : bM B s) (hn : n < bN B) (hp : p < pinsN (bK B n)) (hv : z = 0 → arr s 42 (bN B) v) (ha : ¬ z = 0 → arr s 43 (bN B) v) (h1 : f (nI (pvN B h v n p)) s) (hy : y = nI p := by rfl) : cl_X10_pinValue G N (nI n) y (nI h) z f s := by
  subst hy
  have h12 := hB.le
  have hp2 := @pins_le (bK B n)
  have hd := (hB.2.2.2.2.2 n p hn hp).1
  refine sg_X10_pinValue _ _ _ _ ?_
  rw [mulI (b := 2), addL (y := 300) (b := 300), nI_add, nI_add]
  have hdr := hb.2.2.2 n p hn (by omega)
  rw [if_pos hp] at hdr
  refine ⟨vp_in_nI (by omega) (by omega), ?_⟩
  rw [nI_clamp (by omega), hdr, nI_clamp (by omega)]
  unfold pvN at h1
  refine pk_ne h (300 + 2 * n + p) (fun e => ?_) (fun e => ?_)
  · rw [if_neg e] at h1
    exact ⟨fun q => ⟨vp_in_nI (by omega) (by omega), by rw [hv q _ hd]; exact h1⟩, fun q => ⟨vp_in_nI (by omega) (by omega), by rw [ha q _ hd]; exact h1⟩⟩
  · rwa [if_pos e] at h1
theorem sp_plainM {f : Int32 → gp_S → Prop} (hB : okB B) (hT : okT T) (hh : h < 400) (hns : ¬ (h = 100 + 2 * n ∨ h = 200 + 2 * n)) (hb : bM B s) (hts : tM T s) (hv : arr s 42 (bN B) v) (ha : arr s 43 (bN B) a) (hok : okV v) (hn : n < bN B) (ht : t < T.1) (h1 : f (nI (nvN B T h t a v n)) s) : cl_X10_plainValue G (N + 1) (nI n) (nI t) (nI h) f s := by
  have h12 := hB.le
  have hT1 := hT.1
  have h5 := hB.2.2.2.1 n hn
  refine sg_X10_plainValue _ _ _ ⟨vp_in_nI (by omega) (by omega), ?_⟩
  rw [nI_clamp (by omega), hb.2.2.1 n hn]
  unfold nvN at h1
  rw [if_neg (fun e => hns (Or.inl e)), if_neg (fun e => hns (Or.inr e))] at h1
  refine ⟨fun q => ?_, fun q => ?_, fun q => ?_, fun q => ?_, fun q => ?_, fun q0 q1 q2 q3 q4 => ?_⟩
  · have e := nI_inj (b := 0) (by omega) (by omega) q
    rw [if_pos e] at h1
    refine ⟨vp_in_nI (by omega) (by omega), ?_⟩
    rw [nI_clamp (by omega), hts.2 t ht, bI_bit (by have := hT.2 t ht; omega) (by omega)]
    exact h1
  · have e := nI_inj (b := 1) (by omega) (by omega) q
    have hp := pinsN_2 (k := bK B n) (by omega) (by omega)
    rw [if_neg (by omega), if_pos e] at h1
    refine sp_pinM (p := 0) (v := v) hB hh hb hn (by omega) (fun _ => hv) (fun q => absurd rfl q) (sp_pinM (p := 1) (v := v) hB hh hb hn (by omega) (fun _ => hv) (fun q => absurd rfl q) ?_)
    rw [bI_and]
    exact h1
  · have e := nI_inj (b := 2) (by omega) (by omega) q
    have hp := pinsN_2 (k := bK B n) (by omega) (by omega)
    rw [if_neg (by omega), if_neg (by omega), if_pos e] at h1
    refine sp_pinM (p := 0) (v := v) hB hh hb hn (by omega) (fun _ => hv) (fun q => absurd rfl q) (sp_pinM (p := 1) (v := v) hB hh hb hn (by omega) (fun _ => hv) (fun q => absurd rfl q) ?_)
    rw [bI_or]
    exact h1
  · have e := nI_inj (b := 3) (by omega) (by omega) q
    have hp := pinsN_2 (k := bK B n) (by omega) (by omega)
    rw [if_neg (by omega), if_neg (by omega), if_neg (by omega), if_pos e] at h1
    refine sp_pinM (p := 0) (v := v) hB hh hb hn (by omega) (fun _ => hv) (fun q => absurd rfl q) (sp_pinM (p := 1) (v := v) hB hh hb hn (by omega) (fun _ => hv) (fun q => absurd rfl q) ?_)
    rw [fb_xorI]
    exact h1
  · have e := nI_inj (b := 4) (by omega) (by omega) q
    have hp := pinsN_1 (k := bK B n) (by omega)
    rw [if_neg (by omega), if_neg (by omega), if_neg (by omega), if_neg (by omega), if_pos e] at h1
    refine sp_pinM (p := 0) (v := v) hB hh hb hn (by omega) (fun _ => hv) (fun q => absurd rfl q) ?_
    rw [show (1 : Int32) = nI 1 from rfl, pk_sub (pvN_le hB hok hn (by omega))]
    exact h1
  · have a0 : bK B n ≠ 0 := fun e => q0 (by rw [e]; rfl)
    have a1 : bK B n ≠ 1 := fun e => q1 (by rw [e]; rfl)
    have a2 : bK B n ≠ 2 := fun e => q2 (by rw [e]; rfl)
    have a3 : bK B n ≠ 3 := fun e => q3 (by rw [e]; rfl)
    have a4 : bK B n ≠ 4 := fun e => q4 (by rw [e]; rfl)
    rw [if_neg a0, if_neg a1, if_neg a2, if_neg a3, if_neg a4] at h1
    refine pk_ne t 0 (fun e => ?_) (fun e => ?_)
    · rw [if_neg e] at h1
      exact sp_pinM (p := 0) (v := a) hB hh hb hn (pinsN_k a0) (fun q => absurd q (by decide)) (fun _ => ha) h1
    · rw [if_pos e] at h1
      exact h1
/-- one node of a tick, in the reference: isStuck, then the value, put with its bit of the history -/
def doM (G : gp_G) (N h t n k : Nat) (f : gp_S → Prop) (s : gp_S) : Prop :=
  cl_X10_isStuck G N (nI h) (nI n) (fun r2 s2 => (r2 = 0 → cl_X10_plainValue G N (nI n) (nI t) (nI h) (fun r4 s3 => vp_in (nI n) 12 ∧ (vp_in (nI n) 12 ∧ (vp_in (nI n) 12 ∧ (vp_in (nI n) 12 ∧ (at_X10_goTick_30 G (N + 1) (nI t) (nI h) (nI k) f (gp_ui (gp_ui s3 42 n r4) 41 n ((s3.1 41 n) ||| (((gp_ui s3 42 n r4).1 42 n) <<< (nI t &&& 31))))))))) s2) ∧ (¬ r2 = 0 → vp_in (nI n) 12 ∧ (vp_in (nI n) 12 ∧ (vp_in (nI n) 12 ∧ (vp_in (nI n) 12 ∧ (at_X10_goTick_30 G (N + 1) (nI t) (nI h) (nI k) f (gp_ui (gp_ui s2 42 n ((nI h / 100) - 1)) 41 n ((s2.1 41 n) ||| (((gp_ui s2 42 n ((nI h / 100) - 1)).1 42 n) <<< (nI t &&& 31)))))))))) s
theorem sp_doM {k H : Nat} {f : gp_S → Prop} (hB : okB B) (hT : okT T) (hh : okH B h) (hb : bM B s) (hts : tM T s) (hv : arr s 42 (bN B) v) (ha : arr s 43 (bN B) a) (hok : okV v) (hoa : okV a) (hn : n < bN B) (ht : t < T.1) (hH : s.1 41 n = nI H) (h1 : at_X10_goTick_30 G (N + 2) (nI t) (nI h) (nI k) f (gp_ui (gp_ui s 42 n (nI (nvN B T h t a v n))) 41 n (nI (H ||| nvN B T h t a v n * 2 ^ t)))) : doM G (N + 1) h t n k f s := by
  have h12 := hB.le
  have hT1 := hT.1
  have h4 := okH_lt hB hh
  have hin : vp_in (nI n) 12 := vp_in_nI (by omega) (by omega)
  have hle := nvN_le (T := T) (h := h) (t := t) hB hok hoa hn
  have h2 : 2 ^ t ≤ 2 ^ 15 := Nat.pow_le_pow_right (by omega) (by omega)
  have h3 : nvN B T h t a v n * 2 ^ t ≤ 1 * 2 ^ t := Nat.mul_le_mul_right _ hle
  have hst : ∀ x : Int32, x = nI (nvN B T h t a v n) → at_X10_goTick_30 G (N + 2) (nI t) (nI h) (nI k) f (gp_ui (gp_ui s 42 n x) 41 n ((s.1 41 n) ||| (((gp_ui s 42 n x).1 42 n) <<< (nI t &&& 31)))) := by
    intro x hx
    subst hx
    rw [ui_at, if_pos ⟨rfl, rfl⟩, hH, bI_shl _ (by omega) (by omega), bI_or]
    exact h1
  refine sp_stuckM hB hh hn ?_
  by_cases hs : h = 100 + 2 * n ∨ h = 200 + 2 * n
  · rw [if_pos hs]
    refine ⟨fun q => absurd q (by decide), fun _ => ⟨hin, hin, hin, hin, hst _ ?_⟩⟩
    rw [show (100 : Int32) = nI 100 from rfl, pk_div (by omega) (by omega) (by omega), subI (b := 1) (by omega)]
    unfold nvN
    rcases hs with e | e
    · rw [if_pos e]; congr 1; omega
    · rw [if_neg (by omega), if_pos e]; congr 1; omega
  · rw [if_neg hs]
    exact ⟨fun _ => sp_plainM hB hT h4 hs hb hts hv ha hok hn ht ⟨hin, hin, hin, hin, hst _ rfl⟩, fun q => absurd rfl q⟩
def vK (B : gB) (T : gT) (h t : Nat) (v : Nat → Nat) (k : Nat) : Nat → Nat := if k ≤ bN B then psN true B T h t v k v else psN false B T h t v (k - bN B) (psN true B T h t v (bN B) v)
def dK (B : gB) (k n : Nat) : Prop := (bK B n = 5 ∧ n < k) ∨ (bK B n ≠ 5 ∧ bN B + n < k)
theorem vK_ok {k : Nat} (hB : okB B) (hv : okV v) (hk : k ≤ 2 * bN B) : okV (vK B T h t v k) := by
  unfold vK
  split
  · exact psN_ok hB hv (by assumption) hv
  · exact psN_ok hB hv (by omega) (psN_ok hB hv (Nat.le_refl _) hv)
theorem vK_succ {k : Nat} (hk : k < 2 * bN B) : vK B T h t v (k + 1) = if (bK B (k % bN B) = 5) = (k < bN B) then va_up (vK B T h t v k) (k % bN B) (nvN B T h t v (vK B T h t v k) (k % bN B)) else vK B T h t v k := by
  unfold vK
  by_cases h1 : k < bN B
  · rw [if_pos (show k + 1 ≤ bN B by omega), if_pos (show k ≤ bN B by omega), psN, Nat.mod_eq_of_lt h1]
    simp [h1]
  · have e2 : k % bN B = k - bN B := by rw [Nat.mod_eq_sub_mod (by omega), Nat.mod_eq_of_lt (by omega)]
    rw [if_neg (show ¬ k + 1 ≤ bN B by omega), show k + 1 - bN B = k - bN B + 1 from by omega, psN, e2]
    have e3 : (if k ≤ bN B then psN true B T h t v k v else psN false B T h t v (k - bN B) (psN true B T h t v (bN B) v)) = psN false B T h t v (k - bN B) (psN true B T h t v (bN B) v) := by
      by_cases e : k = bN B
      · rw [if_pos (by omega), e]; simp [psN]
      · rw [if_neg (by omega)]
    rw [e3]
    simp [h1]
theorem sp_tickM {f : gp_S → Prop} {Hh : Nat → Nat} (hB : okB B) (hT : okT T) (hh : okH B h) (hb : bM B s) (hts : tM T s) (hv : arr s 42 (bN B) v) (hok : okV v) (ht : t < T.1) (hH : ∀ n, n < bN B → s.1 41 n = nI (Hh n)) (h1 : ∀ s', fr [41, 42, 43] s s' → arr s' 42 (bN B) (tickN B T h t v) → (∀ n, n < bN B → s'.1 41 n = nI (Hh n ||| tickN B T h t v n * 2 ^ t)) → f s') : cl_X10_goTick G (N + 2) (nI t) (nI h) f s := by
  have h12 := hB.le
  have hT1 := hT.1
  have main : ∀ (m k : Nat) (s1 : gp_S), k + m = 2 * bN B → fr [41, 42, 43] s s1 → arr s1 43 (bN B) v → arr s1 42 (bN B) (vK B T h t v k) → (∀ n, n < bN B → (dK B k n → s1.1 41 n = nI (Hh n ||| vK B T h t v k n * 2 ^ t)) ∧ (¬ dK B k n → s1.1 41 n = nI (Hh n))) → at_X10_goTick_30 G (N + 2) (nI t) (nI h) (nI k) f s1 := by
    intro m
    induction m with
    | zero =>
      intro k s1 hk hf ha hv1 hH1
      have hb1 := hb.fr hf
      refine sg_X10_goTick_30 _ _ _ ?_
      rw [hb1.2.1, mulI (b := 2)]
      refine ⟨fun _ => h1 s1 hf ?_ (fun n hn => ?_), fun q => absurd (nI_le (by omega) (by omega)) q⟩
      · have e : vK B T h t v k = tickN B T h t v := by
          unfold vK tickN
          by_cases e0 : k ≤ bN B
          · have : k = 0 := by omega
            rw [if_pos e0, this, show bN B = 0 from by omega]
            rfl
          · rw [if_neg e0, show k - bN B = bN B from by omega]
        rw [← e]
        exact hv1
      · have e : vK B T h t v k = tickN B T h t v := by
          unfold vK tickN
          rw [if_neg (by omega), show k - bN B = bN B from by omega]
        rw [← e]
        refine (hH1 n hn).1 ?_
        unfold dK
        by_cases e5 : bK B n = 5
        · exact Or.inl ⟨e5, by omega⟩
        · exact Or.inr ⟨e5, by omega⟩
    | succ m ih =>
      intro k s1 hk hf ha hv1 hH1
      have hb1 := hb.fr hf
      have hnn : 0 < bN B := by omega
      have hmod : k % bN B < bN B := Nat.mod_lt _ hnn
      refine sg_X10_goTick_30 _ _ _ ?_
      rw [hb1.2.1, mulI (b := 2), pk_rem (by omega) hnn (by omega), nI_clamp (by omega), hb1.2.2.1 _ hmod, nI_1]
      generalize hnd : k % bN B = n at hmod
      refine ⟨fun q => absurd q (nI_ge (by omega) (by omega)), fun _ => ⟨nI_ne0 hnn (by omega), vp_in_nI (by omega) (by omega), ?_⟩⟩
      have hsucc := @vK_succ B T h t v k (by omega)
      rw [hnd] at hsucc
      have hk5 := hB.2.2.2.1 n hmod
      have hcase : (k < bN B ∧ n = k) ∨ (bN B ≤ k ∧ k = bN B + n) := by
        rcases Nat.lt_or_ge k (bN B) with q | q
        · exact Or.inl ⟨q, by rw [← hnd, Nat.mod_eq_of_lt q]⟩
        · refine Or.inr ⟨q, ?_⟩
          have : k % bN B = k - bN B := by rw [Nat.mod_eq_sub_mod q, Nat.mod_eq_of_lt (by omega)]
          omega
      have hsk : ¬ ((bK B n = 5) = (k < bN B)) → at_X10_goTick_30 G (N + 2) (nI t) (nI h) (nI (k + 1)) f s1 := by
        intro hne
        rw [if_neg hne] at hsucc
        refine ih (k + 1) s1 (by omega) hf ha (by rw [hsucc]; exact hv1) (fun j hj => ?_)
        rw [hsucc]
        have e : dK B (k + 1) j ↔ dK B k j := by
          unfold dK
          by_cases ej : j = n
          · subst ej
            by_cases e5 : bK B j = 5
            · have : ¬ k < bN B := fun q => hne (by simp [e5, q])
              constructor <;> intro z <;> left <;> exact ⟨e5, by omega⟩
            · have : k < bN B := Decidable.byContradiction fun q => hne (by simp [e5, q])
              constructor <;> intro z <;> rcases z with z | z <;> first | exact absurd z.1 e5 | omega
          · constructor
            · rintro (z | z)
              · exact Or.inl ⟨z.1, by rcases hcase with c | c <;> omega⟩
              · exact Or.inr ⟨z.1, by rcases hcase with c | c <;> omega⟩
            · rintro (z | z)
              · exact Or.inl ⟨z.1, by omega⟩
              · exact Or.inr ⟨z.1, by omega⟩
        rw [e]
        exact hH1 j hj
      have hdo : ((bK B n = 5) = (k < bN B)) → doM G (N + 1) h t n (k + 1) f s1 := by
        intro he
        rw [if_pos he] at hsucc
        have hnd2 : ¬ dK B k n := by
          unfold dK
          rintro (z | z)
          · have : k < bN B := by rw [← he]; exact z.1
            omega
          · have : ¬ k < bN B := by rw [← he]; exact z.1
            omega
        refine sp_doM hB hT hh hb1 (hts.fr hf) hv1 ha (vK_ok hB hok (by omega)) hok hmod ht ((hH1 n hmod).2 hnd2) ?_
        refine ih (k + 1) _ (by omega) ((hf.ui (a := 42) n _).ui (a := 41) n _) (arr.ne (arr.ne ha n _) n _) (by rw [hsucc]; exact arr.ne (hv1.put n _) n _) (fun j hj => ?_)
        rw [hsucc]
        by_cases ej : j = n
        · subst ej
          refine ⟨fun _ => ?_, fun z => ?_⟩
          · rw [ui_at, if_pos ⟨rfl, rfl⟩]; simp [va_up]
          · exfalso
            apply z
            unfold dK
            by_cases e5 : bK B j = 5
            · have : k < bN B := by rw [← he]; exact e5
              exact Or.inl ⟨e5, by omega⟩
            · have : ¬ k < bN B := by rw [← he]; exact e5
              exact Or.inr ⟨e5, by omega⟩
        · have e : dK B (k + 1) j ↔ dK B k j := by
            unfold dK
            constructor
            · rintro (z | z)
              · exact Or.inl ⟨z.1, by rcases hcase with c | c <;> omega⟩
              · exact Or.inr ⟨z.1, by rcases hcase with c | c <;> omega⟩
            · rintro (z | z)
              · exact Or.inl ⟨z.1, by omega⟩
              · exact Or.inr ⟨z.1, by omega⟩
          rw [e, ui_at, if_neg (by omega), ui_at, if_neg (by omega)]
          simp only [va_up, ej, if_false]
          exact hH1 j hj
      refine pk_ne (bK B n) 5 (fun e5 => pk_le (bN B) k (fun q => ⟨fun z => absurd rfl z, fun _ => hdo (by simp [e5]; omega)⟩) (fun q => ⟨fun _ => hsk (by simp [e5, q]), fun z => absurd z (by decide)⟩)) (fun e5 => pk_le (bN B) k (fun q => ⟨fun _ => hsk (by simp [e5]; omega), fun z => absurd z (by decide)⟩) (fun q => ⟨fun z => absurd rfl z, fun _ => hdo (by simp [e5, q])⟩))
  have copy : ∀ (m k : Nat) (s1 : gp_S), k + m = bN B → fr [43] s s1 → (∀ n, n < k → s1.1 43 n = nI (v n)) → at_X10_goTick_2 G (N + 2) (nI t) (nI h) (nI k) f s1 := by
    intro m
    induction m with
    | zero =>
      intro k s1 hk hf hc
      refine sg_X10_goTick_2 _ _ _ ?_
      rw [(hb.fr hf).2.1]
      refine pk_le (bN B) k (fun _ => ?_) (fun q => absurd q (by omega))
      refine main (2 * bN B) 0 s1 (by omega) (hf.mono (by decide)) (fun n hn => hc n (by omega)) ?_ (fun n hn => ⟨fun z => ?_, fun _ => ?_⟩)
      · unfold vK
        rw [if_pos (Nat.zero_le _)]
        exact hv.fr hf
      · exfalso
        unfold dK at z
        omega
      · rw [hf.i 41]; exact hH n hn
    | succ m ih =>
      intro k s1 hk hf hc
      refine sg_X10_goTick_2 _ _ _ ?_
      rw [(hb.fr hf).2.1, nI_clamp (by omega), nI_1]
      have hin : vp_in (nI k) 12 := vp_in_nI (by omega) (by omega)
      refine pk_le (bN B) k (fun q => absurd q (by omega)) (fun _ => ⟨hin, hin, ?_⟩)
      refine ih (k + 1) _ (by omega) (hf.ui k _) (fun n hn => ?_)
      rw [ui_at]
      by_cases e : n = k
      · rw [if_pos ⟨rfl, e⟩, e, hf.i 42]; exact hv k (by omega)
      · rw [if_neg (by omega)]; exact hc n (by omega)
  exact sg_X10_goTick _ _ (copy (bN B) 0 s (by omega) fr_rfl (fun n hn => absurd hn (Nat.not_lt_zero n)))
/-- all ticks, in the reference -/
theorem sp_allM {f : gp_S → Prop} (hB : okB B) (hT : okT T) (hh : okH B h) (hb : bM B s) (hts : tM T s) (h1 : ∀ s', fr [41, 42, 43] s s' → (∀ n, n < bN B → s'.1 41 n = nI (hisN B T h T.1 n)) → f s') : cl_X10_goAll G (N + 3) (nI h) f s := by
  have h12 := hB.le
  have hT1 := hT.1
  have ticks : ∀ (m t : Nat) (s1 : gp_S), t + m = T.1 → fr [41, 42, 43] s s1 → arr s1 42 (bN B) (runN B T h (fun _ => 0) t) → (∀ n, n < bN B → s1.1 41 n = nI (hisN B T h t n)) → at_X10_goAll_32 G (N + 3) (nI h) (nI t) f s1 := by
    intro m
    induction m with
    | zero =>
      intro t s1 ht hf hv hH
      refine sg_X10_goAll_32 _ _ ?_
      rw [(hts.fr hf).1]
      exact pk_le T.1 t (fun _ => h1 s1 hf (by rw [show T.1 = t from by omega]; exact hH)) (fun q => absurd q (by omega))
    | succ m ih =>
      intro t s1 ht hf hv hH
      refine sg_X10_goAll_32 _ _ ?_
      rw [(hts.fr hf).1, nI_1]
      refine pk_le T.1 t (fun q => absurd q (by omega)) (fun _ => ?_)
      refine sp_tickM hB hT hh (hb.fr hf) (hts.fr hf) hv (runN_ok hB (fun _ _ => Nat.zero_le _) t) (by omega) hH (fun s2 hf2 hv2 hH2 => ?_)
      exact ih (t + 1) s2 (by omega) (hf.trans hf2) hv2 hH2
  have zero : ∀ (m k : Nat) (s1 : gp_S), k + m = bN B → fr [41, 42, 43] s s1 → (∀ n, n < k → s1.1 41 n = 0 ∧ s1.1 42 n = 0) → at_X10_goAll_2 G (N + 3) (nI h) (nI k) f s1 := by
    intro m
    induction m with
    | zero =>
      intro k s1 hk hf hc
      refine sg_X10_goAll_2 _ _ ?_
      rw [(hb.fr hf).2.1]
      exact pk_le (bN B) k (fun _ => ticks T.1 0 s1 (by omega) hf (fun n hn => (hc n (by omega)).2) (fun n hn => (hc n (by omega)).1)) (fun q => absurd q (by omega))
    | succ m ih =>
      intro k s1 hk hf hc
      refine sg_X10_goAll_2 _ _ ?_
      rw [(hb.fr hf).2.1, nI_clamp (by omega), nI_1]
      have hin : vp_in (nI k) 12 := vp_in_nI (by omega) (by omega)
      refine pk_le (bN B) k (fun q => absurd q (by omega)) (fun _ => ⟨hin, hin, ?_⟩)
      refine ih (k + 1) _ (by omega) ((hf.ui (a := 41) k _).ui (a := 42) k _) (fun n hn => ?_)
      simp only [ui_at]
      by_cases e : n = k
      · simp [e]
      · simp [e, hc n (by omega)]
  exact sg_X10_goAll _ (zero (bN B) 0 s (by omega) fr_rfl (fun n hn => absurd hn (Nat.not_lt_zero n)))
/-- the mark of a history, in the reference -/
theorem sp_markM {f : Int32 → gp_S → Prop} {H : Nat} (hT : okT T) (hts : tM T s) (hH : H < 2 ^ 31) (h1 : f (nI (mrkH H T.1)) s) : cl_X10_markBy G N (nI H) f s := by
  have hT1 := hT.1
  have key : ∀ (m t : Nat), t + m = T.1 → at_X10_markBy_4 G N (nI H) (nI (mrkH H t)) (nI t) f s := by
    intro m
    induction m with
    | zero =>
      intro t ht
      refine sg_X10_markBy_4 _ _ _ ?_
      rw [hts.1]
      exact pk_le T.1 t (fun _ => by rw [show t = T.1 from by omega]; exact h1) (fun q => absurd q (by omega))
    | succ m ih =>
      intro t ht
      have hl := mrkH_lt H t
      refine sg_X10_markBy_4 _ _ _ ?_
      rw [hts.1, nI_1, bI_bit hH (by omega)]
      have e := mst_I hl (bitN_le H t)
      unfold bitN at e
      have hi := ih (t + 1) (by omega)
      refine pk_le T.1 t (fun q => absurd q (by omega)) (fun _ => pk_lt (mrkH H t) 128 (fun q => ?_) (fun q => ?_))
      · rw [if_pos q] at e
        rw [e]
        exact hi
      · rw [if_neg (show ¬ mrkH H t < 128 by omega)] at e
        rw [e]
        exact hi
  exact sg_X10_markBy _ (key T.1 0 (by omega))
end SM
