-- ===== the class: bits, the row told, the text =====
theorem zush_s : ∀ k, k < 31 → (((nI k).toUInt32 &&& Int32.toUInt32 31).toBitVec % 32).toNat = k := by decide +kernel
theorem nI_dec (l : Nat) : nI (l + 1) + (-1) = nI l := by rw [← Int32.sub_eq_add_neg]; exact nI_pred l
theorem sFB_tb (f : Nat → Bool) (n k : Nat) : (sFB f n).testBit k = (decide (k < n) && f k) := by
  by_cases c : k < n
  · rw [Nat.testBit_eq_decide_div_mod_eq, sFB_bit f n k c, decide_eq_true c]
    cases f k <;> rfl
  · rw [decide_eq_false c, Nat.testBit_lt_two_pow (Nat.lt_of_lt_of_le (sFB_lt f n) (Nat.pow_le_pow_right (by decide) (by omega)))]
    rfl
theorem zorN (a b : Nat) : nI a ||| nI b = nI (a ||| b) := Int32.toBitVec_inj.mp (BitVec.ofNat_or (w := 32)).symm
theorem zor9 : ∀ r, r < 9 → ∀ a, a < 2 ^ r → a ||| 2 ^ r = a + 2 ^ r := by decide +kernel
/-- the n-th bit of a mask, from a bit on -/
def sNth (a : Nat) : Nat → Nat → Nat → Option Nat
  | 0, _, _ => none
  | f + 1, b, l => if a.testBit b = true then (if l = 0 then some b else sNth a f (b + 1) (l - 1)) else sNth a f (b + 1) l
theorem sPc_eq : ∀ b, b < 512 → sBC (nI b) = nI (sPc b) := by decide +kernel
section
variable {G : zG} {n : Nat} {I : zI} {L : zL} {R : zR} {q : zq} {post : zPo}
theorem k_holdsX {x ki : Int32} {k : Nat} (hki : ki = nI k) (hk : k < 31) (h : post (some (.int (zbo (decide (x.toBitVec.toNat / 2 ^ k % 2 = 1))))) I L R) : zC G (n + 1) 306 [.int x, .int ki] I L R post := by
  subst hki
  have e : ((x.toUInt32 >>> ((nI k).toUInt32 &&& Int32.toUInt32 31)).toInt32 &&& 1) = nI (x.toBitVec.toNat / 2 ^ k % 2) := by
    rw [pk_and _ (m := 1) 1 rfl, pk_ushr x (nI k) k (zush_s k hk)]
  refine zin0 rfl rfl rfl (b306_0 ?_)
  show (((x.toUInt32 >>> ((nI k).toUInt32 &&& Int32.toUInt32 31)).toInt32 &&& 1) = 0 → _) ∧ (¬ ((x.toUInt32 >>> ((nI k).toUInt32 &&& Int32.toUInt32 31)).toInt32 &&& 1) = 0 → _)
  rw [e]
  generalize x.toBitVec.toNat / 2 ^ k = a at h
  refine pk_eq (a % 2) 0 (fun c => b306_12 (b306_13 (And.intro rfl ?_))) (fun c => b306_13 (And.intro rfl ?_)) rfl rfl (by omega) (by omega)
  · rw [decide_eq_false (by omega)] at h
    exact h
  · rw [decide_eq_true (by omega)] at h
    exact h
theorem k_holds {x ki : Int32} {a k : Nat} (hx : x = nI a) (ha : a < 2 ^ 31) (hki : ki = nI k) (hk : k < 31) (h : post (some (.int (zbo (a.testBit k)))) I L R) : zC G (n + 1) 306 [.int x, .int ki] I L R post := by
  refine k_holdsX hki hk ?_
  rw [hx, pk_tn (by omega), ← Nat.testBit_eq_decide_div_mod_eq]
  exact h
theorem k_nthBit {x y : Int32} {a m : Nat} (hx : x = nI a) (ha : a < 2 ^ 31) (hy : y = nI m) (hm : m < 2 ^ 31) (h : post (some (.int (zon (sNth a 31 0 m)))) I L R) : zC G (n + 2) 307 [.int x, .int y] I L R post := by
  subst hx hy
  have key : ∀ j b l, b + j = 31 → l < 2 ^ 31 → post (some (.int (zon (sNth a j b l)))) I L R → zQ G 307 (n + 1) post 4 [some (.int (nI a)), some (.int (nI m)), some (.int (nI l)), some (.int (nI b))] [] I L R := by
    intro j
    induction j with
    | zero =>
      intro b l hb _ hp
      exact b307_4 (pk_le 31 b (fun _ => b307_33 hp) (fun z => absurd z (by omega)) rfl rfl (by omega) (by omega))
    | succ j ih =>
      intro b l hb hl hp
      rw [sNth] at hp
      refine b307_4 (pk_le 31 b (fun z => absurd z (by omega)) (fun _ => k_holds rfl ha rfl (by omega) (zbo_eq (fun c => ?_) (fun c => ?_))) rfl rfl (by omega) (by omega))
      · rw [if_neg (by rw [c]; decide)] at hp
        have qq := ih (b + 1) l (by omega) hl hp
        rw [← nI_1] at qq
        exact b307_27 qq
      · rw [if_pos c] at hp
        refine pk_ne l 0 (fun z => ?_) (fun z => ?_) rfl rfl hl (by omega)
        · rw [if_neg z] at hp
          have qq := ih (b + 1) (l - 1) (by omega) (by omega) hp
          rw [← nI_1] at qq
          refine b307_24 (b307_27 ?_)
          have e : nI l + (-1) = nI (l - 1) := by
            have := nI_dec (l - 1)
            rw [show l - 1 + 1 = l by omega] at this
            exact this
          rw [← e] at qq
          exact qq
        · rw [if_pos z] at hp
          exact hp
  exact zin0 rfl rfl rfl (b307_0 (key 31 0 m (by omega) hm h))
theorem k_bitCount {x : Int32} {a : Nat} (hx : x = nI a) (ha : a < 512) (h : post (some (.int (nI (sPc a)))) I L R) : zC G (n + 1) 125 [.int x] I L R post := by
  subst hx
  refine c_bitCount ?_
  rw [sPc_eq a ha]
  exact h
/-- the class's row -/
def kRow (l : List Int64) (I : zI) (L : zL) : Prop := I 96 1 = nI l.length ∧ l.length ≤ 32 ∧ ∀ i x, l[i]? = some x → L 97 i = x
theorem k_begin (h : kRow [] (zup I 96 1 0) L → post none (zup I 96 1 0) L (zR1 q)) : zC G (n + 1) 202 [.ref 96] I L (zR1 q) post := zin0 rfl rfl rfl (b202_0 (h ⟨zup_self, by decide, fun i x hx => by cases hx⟩))
theorem k_add {l : List Int64} {x : Int64} (hr : kRow l I L) (hl : l.length < 32) (h : kRow (l ++ [x]) (zup I 96 1 (nI (l.length + 1))) (zup L 97 l.length x) → post none (zup I 96 1 (nI (l.length + 1))) (zup L 97 l.length x) (zR1 q)) : zC G (n + 1) 203 [.ref 96, .long x] I L (zR1 q) post := by
  obtain ⟨h1, h2, h3⟩ := hr
  have hk : kRow (l ++ [x]) (zup I 96 1 (nI (l.length + 1))) (zup L 97 l.length x) := by
    refine ⟨by rw [zup_self, snoc_len], by rw [snoc_len]; omega, fun i y hy => ?_⟩
    rcases snoc_get hy with ⟨e1, e2⟩ | ⟨e1, e2⟩
    · rw [e1, e2, zup_self]
    · rw [zup_k (by omega)]
      exact h3 i y e2
  have hc : (nI l.length).toNatClampNeg = l.length := nI_clamp (by omega)
  refine zin0 rfl rfl rfl (b203_0 ?_)
  show (I 96 1 < 0 → _) ∧ (¬ I 96 1 < 0 → (_ ≤ I 96 1 → _) ∧ (¬ _ ≤ I 96 1 → vp_in (I 96 1) _ ∧ zwp _ _ _ _ _ _ _ _ _ _ _ (zup L 97 (I 96 1).toNatClampNeg x) _))
  rw [h1, hc]
  refine And.intro (fun z => absurd z (nI_pos (by omega))) (fun _ => pk_le 32 l.length (fun z => absurd z (by omega)) (fun _ => And.intro (vp_in_nI hl (by decide)) (And.intro rfl ?_)) rfl rfl (by omega) (by omega))
  refine b203_39 ?_
  have qq := h hk
  show post none (zup I 96 1 (I 96 1 + 1)) _ _
  rw [h1, nI_1]
  exact qq
theorem k_held {l : List Int64} (hr : kRow l I L) (h : post (some (.int (nI l.length))) I L (zR1 q)) : zC G (n + 1) 204 [.ref 96] I L (zR1 q) post := by
  refine zin0 rfl rfl rfl (b204_0 ?_)
  rw [← hr.1] at h
  exact h
theorem k_at {l : List Int64} {i : Nat} {v : Int64} (hr : kRow l I L) (hi : l[i]? = some v) (h : post (some (.long v)) I L (zR1 q)) : zC G (n + 1) 205 [.ref 96, .int (nI i)] I L (zR1 q) post := by
  obtain ⟨h1, h2, h3⟩ := hr
  have hl : i < l.length := (List.getElem?_eq_some_iff.mp hi).1
  refine zin0 rfl rfl rfl (b205_0 ?_)
  refine And.intro (fun z => absurd z (nI_pos (by omega))) (fun _ => ?_)
  show (I 96 1 ≤ _ → _) ∧ (¬ I 96 1 ≤ _ → _)
  rw [h1]
  refine pk_le l.length i (fun z => absurd z (by omega)) (fun _ => pk_le 32 i (fun z => absurd z (by omega)) (fun _ => And.intro (vp_in_nI (by omega) (by decide)) (b205_33 ?_)) rfl rfl (by omega) (by omega)) rfl rfl (by omega) (by omega)
  show post (some (.long (L 97 (nI i).toNatClampNeg))) _ _ _
  rw [nI_clamp (by omega), h3 i v hi]
  exact h
end
