-- ===== the reference: drawing =====
def sRnd (r : Int32) : Int32 := r * 1103515245 + 12345
def sDr (r : Int32) (k : Nat) : Nat := (sRnd r).toBitVec.toNat / 65536 % k
theorem zbv_lt (x : Int32) : x.toBitVec.toNat < 2 ^ 32 := x.toBitVec.isLt
theorem zush (x : Int32) : (x.toUInt32 >>> ((16 : Int32).toUInt32 &&& Int32.toUInt32 31)).toInt32 = nI (x.toBitVec.toNat / 65536) := by
  have h := pk_ushr x 16 16 (by decide)
  have h2 : (nI (x.toBitVec.toNat / 65536)).toBitVec.toNat = x.toBitVec.toNat / 65536 := pk_tn (by have := zbv_lt x; omega)
  apply Int32.toBitVec_inj.mp
  apply BitVec.eq_of_toNat_eq
  rw [h2, h]
section
variable {G : zG} {n : Nat} {I : zI} {L : zL} {q : zq} {post : zPo} {g : zg} {c : sC} {w : uW}
theorem c_draw {k : Nat} (hk : 0 < k) (hk2 : k < 2 ^ 31) (h : post (some (.int (nI (sDr (I 0 16) k)))) (zup I 0 16 (sRnd (I 0 16))) L (zR1 q)) : zC G (n + 1) 84 [.ref 0, .int (nI k)] I L (zR1 q) post := by
  refine zin0 rfl rfl rfl (b84_0 (And.intro (nI_ne0 hk hk2) ?_))
  have e : ((sRnd (I 0 16)).toUInt32 >>> ((16 : Int32).toUInt32 &&& Int32.toUInt32 31)).toInt32 - ((sRnd (I 0 16)).toUInt32 >>> ((16 : Int32).toUInt32 &&& Int32.toUInt32 31)).toInt32 / nI k * nI k = nI (sDr (I 0 16) k) := by
    rw [zush, pk_rem (by have := zbv_lt (sRnd (I 0 16)); omega) hk hk2]
    rfl
  rw [← e] at h
  exact h
end
