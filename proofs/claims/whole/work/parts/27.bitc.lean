def bc1 (x : Int64) : Int64 := x - ((x.toUInt64 >>> ((1 : Int32).toInt64.toUInt64 &&& Int64.toUInt64 63)).toInt64 &&& 6148914691236517205)
def bc2 (x : Int64) : Int64 := (x &&& 3689348814741910323) + ((x.toUInt64 >>> ((2 : Int32).toInt64.toUInt64 &&& Int64.toUInt64 63)).toInt64 &&& 3689348814741910323)
def bc3 (x : Int64) : Int64 := (x + (x.toUInt64 >>> ((4 : Int32).toInt64.toUInt64 &&& Int64.toUInt64 63)).toInt64) &&& 1085102592571150095
def bc4 (x : Int64) : Int64 := x + (x.toUInt64 >>> ((8 : Int32).toInt64.toUInt64 &&& Int64.toUInt64 63)).toInt64
def bc5 (x : Int64) : Int64 := x + (x.toUInt64 >>> ((16 : Int32).toInt64.toUInt64 &&& Int64.toUInt64 63)).toInt64
def bc6 (x : Int64) : Int64 := x + (x.toUInt64 >>> ((32 : Int32).toInt64.toUInt64 &&& Int64.toUInt64 63)).toInt64
theorem bc_fin (n : Nat) : (lN n).toInt32 &&& 127 = nI (n % 128) := by
  rw [lN_i]
  apply Int32.toBitVec_inj.mp
  show BitVec.ofNat 32 n &&& 127#32 = BitVec.ofNat 32 (n % 128)
  apply BitVec.eq_of_toNat_eq
  simp only [BitVec.toNat_and, BitVec.toNat_ofNat]
  rw [show 127 % 2 ^ 32 = 2 ^ 7 - 1 from rfl, Nat.and_two_pow_sub_one_eq_mod]
  omega
theorem bcN {m V1 V2 Z U ct : Nat} (hm : m < 2 ^ 64) (a1 : m / 2 &&& 6148914691236517205 = V2) (a2 : m = V1 + V2) (hB : (V1 &&& 3689348814741910323) + (V1 / 4 &&& 3689348814741910323) = Z) (h3 : Z < 2 ^ 64) (hC : (Z + Z / 16) &&& 1085102592571150095 = U) (c1 : U < 2 ^ 60) (d1 : U + U / 256 < 2 ^ 61) (e1 : U + U / 256 + (U + U / 256) / 65536 < 2 ^ 62) (g1 : (U + U / 256 + (U + U / 256) / 65536 + (U + U / 256 + (U + U / 256) / 65536) / 4294967296) % 128 = ct) : (bc6 (bc5 (bc4 (bc3 (bc2 (bc1 (lN m))))))).toInt32 &&& 127 = nI ct := by
  have ha : bc1 (lN m) = lN V1 := by
    unfold bc1
    rw [lI_ushr hm _ (k := 1) (by decide), show (6148914691236517205 : Int64) = lN 6148914691236517205 from rfl, fb_andL, show m / 2 ^ 1 = m / 2 from rfl, a1, lN_sub (by omega), show m - V2 = V1 from by omega]
  have h2 : V1 < 2 ^ 64 := by omega
  have hb : bc2 (lN V1) = lN Z := by
    unfold bc2
    rw [lI_ushr h2 _ (k := 2) (by decide), show (3689348814741910323 : Int64) = lN 3689348814741910323 from rfl, fb_andL, fb_andL, lN_add, show V1 / 2 ^ 2 = V1 / 4 from rfl, hB]
  have hc : bc3 (lN Z) = lN U := by
    unfold bc3
    rw [lI_ushr h3 _ (k := 4) (by decide), show (1085102592571150095 : Int64) = lN 1085102592571150095 from rfl, lN_add, fb_andL, show Z / 2 ^ 4 = Z / 16 from rfl, hC]
  have hd : bc4 (lN U) = lN (U + U / 256) := by
    unfold bc4
    rw [lI_ushr (by omega) _ (k := 8) (by decide), lN_add]
  have he : bc5 (lN (U + U / 256)) = lN (U + U / 256 + (U + U / 256) / 65536) := by
    unfold bc5
    rw [lI_ushr (by omega) _ (k := 16) (by decide), lN_add]
  have hg : bc6 (lN (U + U / 256 + (U + U / 256) / 65536)) = lN (U + U / 256 + (U + U / 256) / 65536 + (U + U / 256 + (U + U / 256) / 65536) / 4294967296) := by
    unfold bc6
    rw [lI_ushr (by omega) _ (k := 32) (by decide), lN_add]
  rw [ha, hb, hc, hd, he, hg, bc_fin, g1]
theorem Vf_8 (u : Nat → Nat) : ∃ t1 t2 t3 t4 t5 t6, Vf 8 u 8 = u 0 + 256 * t1 ∧ t1 = u 1 + 256 * t2 ∧ t2 = u 2 + 256 * t3 ∧ t3 = u 3 + 256 * t4 ∧ t4 = u 4 + 256 * t5 ∧ t5 = u 5 + 256 * t6 ∧ t6 = u 6 + 256 * u 7 := by
  refine ⟨_, _, _, _, _, _, rfl, rfl, rfl, rfl, rfl, rfl, ?_⟩
  simp [Vf]
theorem bcAll {m : Nat} (hm : m < 2 ^ 64) : (bc6 (bc5 (bc4 (bc3 (bc2 (bc1 (lN m))))))).toInt32 &&& 127 = nI (fb_ct (fun i => m.testBit i) 64) := by
  obtain ⟨a1, a2⟩ := pcA m hm
  have h3 : Vf 4 (pcZ m) 16 < 2 ^ 64 := Vf_lt 4 16 (pcZ m) (fun i _ => by have := pcZ_le m i; omega)
  obtain ⟨t1, t2, t3, t4, t5, t6, q0, q1, q2, q3, q4, q5, q6⟩ := Vf_8 (pcU m)
  obtain ⟨c1, d1, e1, g1⟩ := pcD (pcU_le m 0) (pcU_le m 1) (pcU_le m 2) (pcU_le m 3) (pcU_le m 4) (pcU_le m 5) (pcU_le m 6) (pcU_le m 7) q0 q1 q2 q3 q4 q5 q6 rfl rfl rfl
  rw [← pcE] at g1
  exact bcN hm a1 a2 (pcB m) h3 (pcC m) c1 d1 e1 g1
theorem sp_bitc {G : gp_G} {N m : Nat} {f : Int32 → gp_S → Prop} {s : gp_S} (hm : m < 2 ^ 64) (h : f (nI (fb_ct (fun i => m.testBit i) 64)) s) : cl_J13_bitCount_95d88 G N (lN m) f s := by
  rw [← bcAll hm] at h
  exact sg_J13_bitCount_95d88 _ h
/-- of a mask -/
theorem ct_msk {p : Nat → Bool} {n : Nat} (hn : n ≤ 64) : fb_ct (fun i => (msk p n).testBit i) 64 = fb_ct p n := by
  have h1 : fb_ct (fun i => (msk p n).testBit i) n = fb_ct p n := fb_ct_cong (fun k hk => by rw [msk_bit]; simp [hk])
  have h2 := fb_ct_split (fun i => (msk p n).testBit i) n (64 - n)
  rw [show n + (64 - n) = 64 from by omega] at h2
  rw [h2, h1]
  have h3 : fb_ct (fun k => (msk p n).testBit (n + k)) (64 - n) = 0 := fb_ct_zero.mpr (fun k _ => by rw [msk_bit]; simp only [show ¬ n + k < n by omega, decide_false, Bool.false_and])
  omega
theorem sp_bitcM {G : gp_G} {N n : Nat} {p : Nat → Bool} {f : Int32 → gp_S → Prop} {s : gp_S} (hn : n ≤ 40) (h : f (nI (fb_ct p n)) s) : cl_J13_bitCount_95d88 G N (lN (msk p n)) f s := by
  refine sp_bitc (Nat.lt_of_lt_of_le (msk_lt p n) (Nat.pow_le_pow_right (by omega) (by omega))) ?_
  rw [ct_msk (by omega)]
  exact h
