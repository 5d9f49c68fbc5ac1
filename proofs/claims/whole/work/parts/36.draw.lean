/-! ===== drawing ===== -/
def zN (z : Int32) : Int32 := z * 1103515245 + 12345
def dN (z : Int32) : Nat := (zN z).toUInt32.toNat / 256
theorem dN_lt (z : Int32) : dN z < 2 ^ 24 := by
  have h : (zN z).toUInt32.toNat < 2 ^ 32 := UInt32.toNat_lt _
  unfold dN
  omega
theorem ushr8 (u : UInt32) : (u >>> ((8 : Int32).toUInt32 &&& Int32.toUInt32 31)).toInt32 = nI (u.toNat / 256) := by
  have e8 : ((8 : Int32).toUInt32 &&& Int32.toUInt32 31) = (8 : UInt32) := by decide
  rw [e8]
  apply Int32.toBitVec_inj.mp
  apply BitVec.eq_of_toNat_eq
  have h1 : u.toNat < 2 ^ 32 := UInt32.toNat_lt u
  have h2 : (u >>> (8 : UInt32)).toNat = u.toNat / 256 := by
    rw [UInt32.toNat_shiftRight]
    exact Nat.shiftRight_eq_div_pow _ _
  have h3 : (nI (u.toNat / 256)).toBitVec.toNat = u.toNat / 256 := by
    show (BitVec.ofNat 32 _).toNat = _
    rw [BitVec.toNat_ofNat]
    exact Nat.mod_eq_of_lt (by omega)
  rw [h3]
  exact h2
theorem x_draw {b : Nat} {σ : om_S} (hb : IsT b) : f_X6_draw b σ = some (nI (dN (σ b 7)), om_w σ b 7 (zN (σ b 7))) := by
  unfold f_X6_draw
  simp only [tk hb, if_true, let_s, om_w_s, ushr8]
  unfold dN zN
  exact Eq.refl _
theorem m_draw {σ : om_S} : f_X9_draw 90 σ = some (nI (dN (σ 91 3)), om_w σ 91 3 (zN (σ 91 3))) := by
  have c3 : (3 : Int32).toNatClampNeg = 3 := by decide
  have i3 : om_in 3 387 = True := eq_true (by decide)
  unfold f_X9_draw
  simp only [kM, rM, aM, om_ref_s, if_true, let_s, c3, i3, om_w_s, ushr8]
  unfold dN zN
  exact Eq.refl _
