/-! Long.bitCount -/
theorem lI_ushr {n k : Nat} (hn : n < 2 ^ 64) (s : Int64) (hs : ((s.toUInt64 &&& Int64.toUInt64 63).toBitVec % 64).toNat = k) : ((lN n).toUInt64 >>> (s.toUInt64 &&& Int64.toUInt64 63)).toInt64 = lN (n / 2 ^ k) := by
  apply Int64.toBitVec_inj.mp
  apply BitVec.eq_of_toNat_eq
  have e : ((lN n).toUInt64 >>> (s.toUInt64 &&& Int64.toUInt64 63)).toInt64.toBitVec = (lN n).toBitVec >>> k := by
    rw [← hs]
    exact UInt64.toBitVec_shiftRight _ _
  have h1 : (lN n).toBitVec.toNat = n := Nat.mod_eq_of_lt hn
  have h2 : (lN (n / 2 ^ k)).toBitVec.toNat = n / 2 ^ k := Nat.mod_eq_of_lt (Nat.lt_of_le_of_lt (Nat.div_le_self _ _) hn)
  rw [e, BitVec.toNat_ushiftRight, Nat.shiftRight_eq_div_pow, h1, h2]
/-- fields of w bits -/
def Vf (w : Nat) (c : Nat → Nat) : Nat → Nat
  | 0 => 0
  | n + 1 => c 0 + 2 ^ w * Vf w (fun i => c (i + 1)) n
theorem Vf_add (w : Nat) : ∀ (n : Nat) (a b : Nat → Nat), Vf w a n + Vf w b n = Vf w (fun i => a i + b i) n
  | 0, _, _ => rfl
  | n + 1, a, b => by
    unfold Vf
    rw [← Vf_add w n, Nat.mul_add]
    omega
theorem Vf_cong (w : Nat) : ∀ (n : Nat) (a b : Nat → Nat), (∀ i, i < n → a i = b i) → Vf w a n = Vf w b n
  | 0, _, _, _ => rfl
  | n + 1, a, b, h => by
    unfold Vf
    rw [h 0 (by omega), Vf_cong w n _ _ (fun i hi => h (i + 1) (by omega))]
theorem Vf_shift (w : Nat) (n : Nat) (c : Nat → Nat) (h : c 0 < 2 ^ w) : Vf w c (n + 1) / 2 ^ w = Vf w (fun i => c (i + 1)) n := by
  show (c 0 + 2 ^ w * Vf w (fun i => c (i + 1)) n) / 2 ^ w = _
  rw [Nat.add_mul_div_left _ _ (Nat.two_pow_pos w), Nat.div_eq_of_lt h, Nat.zero_add]
theorem Vf_lt (w : Nat) : ∀ (n : Nat) (c : Nat → Nat), (∀ i, i < n → c i < 2 ^ w) → Vf w c n < 2 ^ (w * n)
  | 0, _, _ => by simp [Vf]
  | n + 1, c, h => by
    unfold Vf
    have ih := Vf_lt w n (fun i => c (i + 1)) (fun i hi => h (i + 1) (by omega))
    have h0 := h 0 (by omega)
    rw [Nat.mul_succ, Nat.pow_add, Nat.mul_comm (2 ^ (w * n))]
    have : 2 ^ w * (Vf w (fun i => c (i + 1)) n + 1) ≤ 2 ^ w * 2 ^ (w * n) := Nat.mul_le_mul_left _ ih
    rw [Nat.mul_add, Nat.mul_one] at this
    omega
/-- every second field, by a mask -/
theorem Vf_even (w : Nat) (hw : 0 < w) : ∀ (n : Nat) (c : Nat → Nat), (∀ i, i < 2 * n → c i < 2 ^ w) → Vf w c (2 * n) &&& Vf (2 * w) (fun _ => 2 ^ w - 1) n = Vf (2 * w) (fun i => c (2 * i)) n
  | 0, _, _ => by simp [Vf]
  | n + 1, c, h => by
    have ih := Vf_even w hw n (fun i => c (i + 1 + 1)) (fun i hi => h (i + 1 + 1) (by omega))
    have h0 := h 0 (by omega)
    have h1 := h 1 (by omega)
    have e : Vf w c (2 * (n + 1)) = (c 0 + 2 ^ w * c 1) + 2 ^ (2 * w) * Vf w (fun i => c (i + 1 + 1)) (2 * n) := by
      rw [show 2 * (n + 1) = 2 * n + 1 + 1 from by omega]
      show c 0 + 2 ^ w * (c 1 + 2 ^ w * Vf w (fun i => c (i + 1 + 1)) (2 * n)) = _
      rw [Nat.mul_add, ← Nat.mul_assoc, ← Nat.pow_add, show w + w = 2 * w from by omega]
      omega
    have hp : 2 ^ (2 * w) = 2 ^ w * 2 ^ w := by rw [show 2 * w = w + w from by omega, Nat.pow_add]
    have hlo : c 0 + 2 ^ w * c 1 < 2 ^ (2 * w) := by
      rw [hp]
      have : 2 ^ w * (c 1 + 1) ≤ 2 ^ w * 2 ^ w := Nat.mul_le_mul_left _ h1
      rw [Nat.mul_add, Nat.mul_one] at this
      omega
    have hm : 2 ^ w - 1 < 2 ^ (2 * w) := by
      have := Nat.two_pow_pos w
      have : 2 ^ w ≤ 2 ^ (2 * w) := Nat.pow_le_pow_right (by omega) (by omega)
      omega
    rw [e]
    show _ &&& ((2 ^ w - 1) + 2 ^ (2 * w) * Vf (2 * w) (fun _ => 2 ^ w - 1) n) = c 0 + 2 ^ (2 * w) * Vf (2 * w) (fun i => c (2 * (i + 1))) n
    rw [show (fun i => c (2 * (i + 1))) = (fun i => (fun i => c (i + 1 + 1)) (2 * i)) from by funext i; show c _ = c _; congr 1, ← ih]
    rw [Nat.add_comm (c 0 + 2 ^ w * c 1), Nat.add_comm (2 ^ w - 1), Nat.add_comm (c 0) (2 ^ (2 * w) * _)]
    apply Nat.eq_of_testBit_eq
    intro j
    have hc0 : c 0 < 2 ^ (2 * w) := by omega
    rw [Nat.testBit_and, Nat.testBit_two_pow_mul_add _ hlo, Nat.testBit_two_pow_mul_add _ hm, Nat.testBit_two_pow_mul_add _ hc0]
    by_cases hj : j < 2 * w
    · simp only [hj, if_true]
      rw [← Nat.testBit_and, Nat.and_two_pow_sub_one_eq_mod, Nat.add_mul_mod_self_left, Nat.mod_eq_of_lt h0]
    · simp only [hj, if_false]
      rw [Nat.testBit_and]
theorem Vf_odd (w : Nat) (hw : 0 < w) (n : Nat) (c : Nat → Nat) (h : ∀ i, i < 2 * n → c i < 2 ^ w) : Vf w c (2 * n) / 2 ^ w &&& Vf (2 * w) (fun _ => 2 ^ w - 1) n = Vf (2 * w) (fun i => c (2 * i + 1)) n := by
  cases n with
  | zero => simp [Vf]
  | succ n =>
    have e : Vf w c (2 * (n + 1)) / 2 ^ w = Vf w (fun i => if i < 2 * n + 1 then c (i + 1) else 0) (2 * (n + 1)) := by
      rw [show 2 * (n + 1) = 2 * n + 1 + 1 from by omega, Vf_shift w _ c (h 0 (by omega))]
      have snoc : ∀ (m : Nat) (a : Nat → Nat), a m = 0 → Vf w a (m + 1) = Vf w a m := by
        intro m
        induction m with
        | zero => intro a ha; simp [Vf, ha]
        | succ m ih =>
          intro a ha
          show a 0 + 2 ^ w * Vf w (fun i => a (i + 1)) (m + 1) = a 0 + 2 ^ w * Vf w (fun i => a (i + 1)) m
          rw [ih (fun i => a (i + 1)) ha]
      rw [snoc (2 * n + 1) _ (by simp)]
      exact Vf_cong w _ _ _ (fun i hi => by simp [hi])
    rw [e, Vf_even w hw (n + 1) _ (fun i hi => by
      split
      · exact h _ (by omega)
      · exact Nat.two_pow_pos w)]
    refine Vf_cong _ _ _ _ (fun i hi => ?_)
    rw [if_pos (by omega)]
theorem Vf_bits (k : Nat) : ∀ m, m < 2 ^ k → m = Vf 1 (fun i => bitN m i) k := by
  induction k with
  | zero => intro m hm; simp at hm; simp [hm, Vf]
  | succ k ih =>
    intro m hm
    have h2 : m / 2 < 2 ^ k := by rw [Nat.pow_succ] at hm; omega
    have := ih (m / 2) h2
    show m = bitN m 0 + 2 ^ 1 * Vf 1 (fun i => bitN m (i + 1)) k
    rw [show (fun i => bitN m (i + 1)) = (fun i => bitN (m / 2) i) from by funext i; unfold bitN; rw [Nat.testBit_succ], ← this]
    unfold bitN
    rw [Nat.testBit_zero]
    rcases Nat.mod_two_eq_zero_or_one m with e | e <;> simp [e] <;> omega
theorem Vf_pair (n : Nat) : ∀ (y : Nat → Nat), Vf 1 y (2 * n) = Vf 2 (fun i => y (2 * i) + 2 * y (2 * i + 1)) n := by
  induction n with
  | zero => intro y; rfl
  | succ n ih =>
    intro y
    rw [show 2 * (n + 1) = 2 * n + 1 + 1 from by omega]
    show y 0 + 2 ^ 1 * (y 1 + 2 ^ 1 * Vf 1 (fun i => y (i + 1 + 1)) (2 * n)) = y 0 + 2 * y 1 + 2 ^ 2 * Vf 2 (fun i => y (2 * (i + 1)) + 2 * y (2 * (i + 1) + 1)) n
    rw [ih (fun i => y (i + 1 + 1))]
    have : (fun i => y (2 * i + 1 + 1) + 2 * y (2 * i + 1 + 1 + 1)) = (fun i => y (2 * (i + 1)) + 2 * y (2 * (i + 1) + 1)) := by funext i; rfl
    rw [this]
    omega
def pcY (m i : Nat) : Nat := bitN m (2 * i) + bitN m (2 * i + 1)
def pcZ (m i : Nat) : Nat := pcY m (2 * i) + pcY m (2 * i + 1)
def pcU (m i : Nat) : Nat := pcZ m (2 * i) + pcZ m (2 * i + 1)
theorem pcY_le (m i : Nat) : pcY m i ≤ 2 := by have := bitN_le m (2 * i); have := bitN_le m (2 * i + 1); unfold pcY; omega
theorem pcZ_le (m i : Nat) : pcZ m i ≤ 4 := by have := pcY_le m (2 * i); have := pcY_le m (2 * i + 1); unfold pcZ; omega
theorem pcU_le (m i : Nat) : pcU m i ≤ 8 := by have := pcZ_le m (2 * i); have := pcZ_le m (2 * i + 1); unfold pcU; omega
theorem m55 : 6148914691236517205 = Vf (2 * 1) (fun _ => 2 ^ 1 - 1) 32 := by decide +kernel
theorem m33 : 3689348814741910323 = Vf (2 * 2) (fun _ => 2 ^ 2 - 1) 16 := by decide +kernel
theorem m0f : 1085102592571150095 = Vf (2 * 4) (fun _ => 2 ^ 4 - 1) 8 := by decide +kernel
theorem pcA (m : Nat) (hm : m < 2 ^ 64) : m / 2 &&& 6148914691236517205 = Vf 2 (fun i => bitN m (2 * i + 1)) 32 ∧ m = Vf 2 (pcY m) 32 + Vf 2 (fun i => bitN m (2 * i + 1)) 32 := by
  have hm1 : m = Vf 1 (fun i => bitN m i) (2 * 32) := Vf_bits 64 m hm
  constructor
  · have := Vf_odd 1 (by omega) 32 (fun i => bitN m i) (fun i _ => by have := bitN_le m i; omega)
    rw [← m55, ← hm1] at this
    exact this
  · rw [Vf_add]
    have := Vf_pair 32 (fun i => bitN m i)
    rw [← hm1] at this
    refine this.trans (Vf_cong _ _ _ _ (fun i _ => ?_))
    unfold pcY
    omega
theorem pcB (m : Nat) : (Vf 2 (pcY m) 32 &&& 3689348814741910323) + (Vf 2 (pcY m) 32 / 4 &&& 3689348814741910323) = Vf 4 (pcZ m) 16 := by
  have h1 := Vf_even 2 (by omega) 16 (pcY m) (fun i _ => by have := pcY_le m i; omega)
  have h2 := Vf_odd 2 (by omega) 16 (pcY m) (fun i _ => by have := pcY_le m i; omega)
  rw [← m33] at h1 h2
  have e := Vf_add 4 16 (fun i => pcY m (2 * i)) (fun i => pcY m (2 * i + 1))
  exact (congr (congrArg _ h1) h2).trans e
theorem pcC (m : Nat) : (Vf 4 (pcZ m) 16 + Vf 4 (pcZ m) 16 / 16) &&& 1085102592571150095 = Vf 8 (pcU m) 8 := by
  have snoc : ∀ (k : Nat) (a : Nat → Nat), a k = 0 → Vf 4 a (k + 1) = Vf 4 a k := by
    intro k
    induction k with
    | zero => intro a ha; simp [Vf, ha]
    | succ k ih =>
      intro a ha
      show a 0 + 2 ^ 4 * Vf 4 (fun i => a (i + 1)) (k + 1) = a 0 + 2 ^ 4 * Vf 4 (fun i => a (i + 1)) k
      rw [ih (fun i => a (i + 1)) ha]
  have e1 : Vf 4 (pcZ m) 16 / 16 = Vf 4 (fun i => if i < 15 then pcZ m (i + 1) else 0) 16 := by
    have := Vf_shift 4 15 (pcZ m) (by have := pcZ_le m 0; omega)
    refine this.trans ?_
    rw [snoc 15 _ (by simp)]
    exact Vf_cong _ _ _ _ (fun i hi => by rw [if_pos hi])
  rw [e1, Vf_add, m0f]
  have h1 := Vf_even 4 (by omega) 8 (fun i => pcZ m i + if i < 15 then pcZ m (i + 1) else 0) (fun i _ => by
    have := pcZ_le m i
    have := pcZ_le m (i + 1)
    show pcZ m i + (if i < 15 then pcZ m (i + 1) else 0) < 16
    split <;> omega)
  refine h1.trans (Vf_cong _ _ _ _ (fun i hi => ?_))
  show pcZ m (2 * i) + (if 2 * i < 15 then pcZ m (2 * i + 1) else 0) = pcU m i
  rw [if_pos (by omega)]
  rfl
theorem pcD {u0 u1 u2 u3 u4 u5 u6 u7 t1 t2 t3 t4 t5 t6 c d e g : Nat} (h0 : u0 ≤ 8) (h1 : u1 ≤ 8) (h2 : u2 ≤ 8) (h3 : u3 ≤ 8) (h4 : u4 ≤ 8) (h5 : u5 ≤ 8) (h6 : u6 ≤ 8) (h7 : u7 ≤ 8) (hc : c = u0 + 256 * t1) (e1 : t1 = u1 + 256 * t2) (e2 : t2 = u2 + 256 * t3) (e3 : t3 = u3 + 256 * t4) (e4 : t4 = u4 + 256 * t5) (e5 : t5 = u5 + 256 * t6) (e6 : t6 = u6 + 256 * u7) (hd : d = c + c / 256) (he : e = d + d / 65536) (hg : g = e + e / 4294967296) : c < 2 ^ 60 ∧ d < 2 ^ 61 ∧ e < 2 ^ 62 ∧ g % 128 = u0 + u1 + u2 + u3 + u4 + u5 + u6 + u7 := by
  have c1 : c / 256 = t1 := by omega
  have d1 : d = (u0 + u1) + 256 * ((u1 + u2) + 256 * (t2 + t3)) := by omega
  have d2 : d / 65536 = t2 + t3 := by omega
  have f1 : e = (u0 + u1 + u2 + u3) + 256 * ((u1 + u2 + u3 + u4) + 256 * ((u2 + u3 + u4 + u5) + 256 * ((u3 + u4 + u5 + u6) + 256 * (t4 + t5 + t6 + u7)))) := by omega
  have f2 : e / 4294967296 = t4 + t5 + t6 + u7 := by omega
  have g1 : g = (u0 + u1 + u2 + u3 + u4 + u5 + u6 + u7) + 256 * ((u1 + u2 + u3 + u4) + 256 * ((u2 + u3 + u4 + u5) + 256 * ((u3 + u4 + u5 + u6) + 256 * (t4 + t5 + t6 + u7))) + t5 + t6 + u7) := by omega
  refine ⟨by omega, by omega, by omega, by omega⟩
theorem pcE (m : Nat) : fb_ct (fun i => m.testBit i) 64 = pcU m 0 + pcU m 1 + pcU m 2 + pcU m 3 + pcU m 4 + pcU m 5 + pcU m 6 + pcU m 7 := by
  have ct4 : ∀ n, fb_ct (fun i => m.testBit i) (n + 4) = fb_ct (fun i => m.testBit i) n + (bitN m n + bitN m (n + 1) + (bitN m (n + 2) + bitN m (n + 3))) := by
    intro n
    rw [show n + 4 = n + 3 + 1 from rfl, fb_ct_succ, show n + 3 = n + 2 + 1 from rfl, fb_ct_succ, show n + 2 = n + 1 + 1 from rfl, fb_ct_succ, fb_ct_succ]
    unfold bitN
    omega
  have hct : ∀ k, fb_ct (fun i => m.testBit i) (4 * (k + 1)) = fb_ct (fun i => m.testBit i) (4 * k) + pcZ m k := by
    intro k
    rw [show 4 * (k + 1) = 4 * k + 4 from by omega, ct4]
    unfold pcZ pcY
    rw [show 2 * (2 * k) = 4 * k from by omega, show 2 * (2 * k + 1) = 4 * k + 2 from by omega]
  have h8 : ∀ k, fb_ct (fun i => m.testBit i) (4 * (2 * (k + 1))) = fb_ct (fun i => m.testBit i) (4 * (2 * k)) + pcU m k := by
    intro k
    rw [show 2 * (k + 1) = 2 * k + 1 + 1 from by omega, hct, hct]
    unfold pcU
    omega
  have e0 : fb_ct (fun i => m.testBit i) (4 * (2 * 0)) = 0 := rfl
  have k0 := h8 0
  have k1 := h8 1
  have k2 := h8 2
  have k3 := h8 3
  have k4 := h8 4
  have k5 := h8 5
  have k6 := h8 6
  have k7 := h8 7
  simp only [Nat.zero_add, Nat.reduceAdd, Nat.reduceMul, Nat.mul_zero] at e0 k0 k1 k2 k3 k4 k5 k6 k7
  rw [k7, k6, k5, k4, k3, k2, k1, k0, e0]
  omega
