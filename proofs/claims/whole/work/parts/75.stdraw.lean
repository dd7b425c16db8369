/-! draw -/
theorem iu_32767 (x : Int32) : iu x 16 &&& 32767 = (x >>> ((16 : Int32) &&& 31)) &&& 32767 := by
  have h16 : ((nI 16 &&& 31).toBitVec.smod 32).toNat = 16 := nSh 16 (by omega)
  apply Int32.toBitVec_inj.mp
  rw [Int32.toBitVec_and, Int32.toBitVec_and]
  apply BitVec.eq_of_getLsbD_eq
  intro i hi
  rw [BitVec.getLsbD_and, BitVec.getLsbD_and]
  by_cases h : i < 15
  · have e1 : (iu x 16).toBitVec.getLsbD i = x.toBitVec.getLsbD (16 + i) := by
      show ((x.toUInt32 >>> ((16 : Int32).toUInt32 &&& Int32.toUInt32 31)).toInt32).toBitVec.getLsbD i = _
      rw [show (x.toUInt32 >>> ((16 : Int32).toUInt32 &&& Int32.toUInt32 31)).toInt32.toBitVec = x.toBitVec >>> 16 from rfl, BitVec.getLsbD_ushiftRight]
    have e2 : (x >>> ((16 : Int32) &&& 31)).toBitVec.getLsbD i = x.toBitVec.getLsbD (16 + i) := by
      rw [show (16 : Int32) = nI 16 from rfl, Int32.toBitVec_shiftRight, BitVec.sshiftRight_eq', h16, BitVec.getLsbD_sshiftRight]
      simp [show ¬ 32 ≤ i by omega, show 16 + i < 32 by omega]
    rw [e1, e2]
  · have e : ∀ i, i < 32 → ¬ i < 15 → (32767 : Int32).toBitVec.getLsbD i = false := by decide
    rw [e i hi h, Bool.and_false, Bool.and_false]
def lcg (s : Int32) : Int32 := s * 1103515245 + 12345
def rnd (s : Int32) : Nat := (iu s 16 &&& 32767).toInt.toNat
theorem rnd_k (s : Int32) : iu s 16 &&& 32767 = nI (rnd s) ∧ rnd s < 32768 := by
  have h : (iu s 16 &&& 32767).toBitVec.toNat < 32768 := by
    rw [Int32.toBitVec_and, BitVec.toNat_and]
    exact Nat.lt_of_le_of_lt Nat.and_le_right (by decide)
  have e : (iu s 16 &&& 32767) = nI ((iu s 16 &&& 32767).toBitVec.toNat) := by
    apply Int32.toBitVec_inj.mp
    apply BitVec.eq_of_toNat_eq
    show _ = (BitVec.ofNat 32 _).toNat
    rw [BitVec.toNat_ofNat, Nat.mod_eq_of_lt (by omega)]
  have t : rnd s = (iu s 16 &&& 32767).toBitVec.toNat := by
    unfold rnd
    rw [e, nI_toInt (by omega)]
    exact congrArg (fun y => y.toBitVec.toNat) e
  rw [t]
  exact ⟨e, h⟩
def sd (s : Int32) : Nat → Int32
  | 0 => s
  | v + 1 => lcg (sd s v)
def drT (q : Nat) (s : Int32) (v : Nat) : Nat := rnd (sd s (v + 1)) % q
/-- one wearer's table drawn -/
def aD1 (a : AN) (s : Int32) (w : Nat) : AN := if akd a w = 0 then aTab a w (drT (aq a) s) else a
def aD2 (a : AN) (s : Int32) (w : Nat) : Int32 := if akd a w = 0 then sd s (avw a w) else s
def aD3 (a : AN) (w : Nat) : Nat := if akd a w = 0 then avw a w else 0
