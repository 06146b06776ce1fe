section LL
variable {G : gp_G} {N : Nat} {E : gp_E} {n : Nat} {xs : Nat → Int32}
theorem lw_loop (hL : n ≤ 1536) (C : gp_ok G (N + 19) mL_law E) (hsd : ∀ {pc : Nat} {L : List (Nat × Value)} {st : List Value} {σ : gp_S} {i : Int32}, decode cL_law pc = .ok (.iaload, 1) → vp_in i n → gp_W G E (pc + 1) L (.int (xs i.toNatClampNeg) :: st) σ → gp_W G E pc L (.int i :: .ref 50 :: st) σ)
    (hsl : ∀ {pc : Nat} {L : List (Nat × Value)} {st : List Value} {σ : gp_S}, decode cL_law pc = .ok (.arraylength, 1) → gp_W G E (pc + 1) L (.int (nI n) :: st) σ → gp_W G E pc L (.ref 50 :: st) σ)
    (hret : ∀ (L : List (Nat × Value)) (σ : gp_S), gp_W G E 494 L [.int 1] σ) : ∀ (k i : Nat) (σ : gp_S), n < i + 3 * k → i ≤ n + 3 → JJ σ → gp_W G E 18 [(3, .int (nI i)), (2, .ref 34), (1, .ref 0), (0, .ref 50)] [] σ := by
  intro k
  induction k with
  | zero =>
    intro i σ hk hi jj
    refine r_iload_n C dL_law_18 0 rfl rfl (r_aload_n C dL_law_19 3 rfl rfl (hsl dL_law_20 (r_iconst C (v := 3) dL_law_21 (by decide) (r_isub C dL_law_22 (r_icmp_gt C 493 dL_law_23 (by decide) (fun _ => r_iconst C (v := 1) dL_law_493 (by decide) (hret _ _)) (fun q => absurd ?_ q))))))
    by_cases e : 3 ≤ n
    · rw [subI (b := 3) e]; exact nI_lt (by omega) (by omega)
    · exact Int32.lt_of_lt_of_le (pk_sneg (a := n) (b := 3) (by omega) (by omega)) (nI_pos' (by omega))
  | succ k ih =>
    intro i σ hk hi jj
    refine r_iload_n C dL_law_18 0 rfl rfl (r_aload_n C dL_law_19 3 rfl rfl (hsl dL_law_20 (r_iconst C (v := 3) dL_law_21 (by decide) (r_isub C dL_law_22 (r_icmp_gt C 493 dL_law_23 (by decide) (fun _ => r_iconst C (v := 1) dL_law_493 (by decide) (hret _ _)) (fun q => ?_))))))
    have hin : i + 3 ≤ n := by
      apply Nat.not_lt.mp
      intro z
      apply q
      by_cases e : 3 ≤ n
      · rw [subI (b := 3) e]; exact nI_lt (by omega) (by omega)
      · exact Int32.lt_of_lt_of_le (pk_sneg (a := n) (b := 3) (by omega) (by omega)) (nI_pos' (by omega))
    have h0 : vp_in (nI i) n := vp_in_nI (by omega) (by omega)
    have h1 : vp_in (nI i + 1) n := by rw [nI_1]; exact vp_in_nI (by omega) (by omega)
    have h2 : vp_in (nI i + 2) n := by rw [addI (b := 2)]; exact vp_in_nI (by omega) (by omega)
    have next : ∀ s, JJ s → gp_W G E 487 [(3, .int (nI i)), (2, .ref 34), (1, .ref 0), (0, .ref 50)] [] s := fun s js =>
      r_iinc C (v := nI (i + 3)) (L' := [(3, .int (nI (i + 3))), (2, .ref 34), (1, .ref 0), (0, .ref 50)]) dL_law_487 0 rfl (addI (b := 3)) (by decide) rfl (r_goto C 18 dL_law_490 (by decide) (ih (i + 3) s (by omega) (by omega) js))
    refine r_aload_n C dL_law_26 3 rfl rfl (r_iload_n C dL_law_27 0 rfl rfl (hsd dL_law_28 h0 (r_bipush C (v := 15) dL_law_29 (by decide) (r_iand C dL_law_31 (r_tab C (hi := 15) (by decide) dL_law_32 [112, 135, 148, 187, 200, 213, 236, 269, 302, 325, 338, 361, 394, 427, 450, 473] (by decide) rfl 487 (by decide) (fun j hj hx => ?_) (fun _ => next σ jj))))))
    have : j = 0 ∨ j = 1 ∨ j = 2 ∨ j = 3 ∨ j = 4 ∨ j = 5 ∨ j = 6 ∨ j = 7 ∨ j = 8 ∨ j = 9 ∨ j = 10 ∨ j = 11 ∨ j = 12 ∨ j = 13 ∨ j = 14 ∨ j = 15 := by omega
    rcases this with e | e | e | e | e | e | e | e | e | e | e | e | e | e | e | e <;> subst e
    · exact lw_letter C hsd h1 h2 jj next
    · exact lw_blank C hsd h1 h2 jj next
    · exact lw_fault C hsd h1 h2 jj next
    · exact lw_board C hsd h1 h2 jj next
    · exact lw_stimulus C hsd h1 h2 jj next
    · exact lw_hurt C hsd h1 h2 jj next
    · exact lw_node C hsd h1 h2 jj next
    · exact lw_shows C hsd h1 h2 jj next
    · exact lw_probe C hsd h1 h2 jj next
    · exact lw_forget C hsd h1 h2 jj next
    · exact lw_suspects C hsd h1 h2 jj next
    · exact lw_suspect C hsd h1 h2 jj next
    · exact lw_way C hsd h1 h2 jj next
    · exact lw_place C hsd h1 h2 jj next
    · exact lw_count C hsd h1 h2 jj next
    · exact lw_digest C hsd h1 h2 jj next
end LL
