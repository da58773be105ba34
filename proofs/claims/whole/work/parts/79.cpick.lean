-- ===== the class: picking, a chest's draw, a foe's answer =====
/-- a contest and its arrays: moves, drawn at, drawn kinds, weights, ones; and the chest played on -/
def kXo (X M A K W N O B P : Nat) : Prop := (X = 72 ∧ M = 73 ∧ A = 74 ∧ K = 75 ∧ W = 76 ∧ N = 77 ∧ O = 62 ∧ B = 63 ∧ P = 64) ∨ (X = 72 ∧ M = 73 ∧ A = 74 ∧ K = 75 ∧ W = 76 ∧ N = 77 ∧ O = 65 ∧ B = 66 ∧ P = 67) ∨ (X = 79 ∧ M = 80 ∧ A = 81 ∧ K = 82 ∧ W = 83 ∧ N = 84 ∧ O = 65 ∧ B = 66 ∧ P = 67)
theorem kXo_co {X M A K W N O B P : Nat} (h : kXo X M A K W N O B P) : kCo O B P := by
  unfold kXo at h
  unfold kCo
  omega
def yPk (X : Nat) : Nat := if X = 79 then 253 else 152
/-- an array of ints, of so many -/
def kAr (o m : Nat) : Prop := zin o zNN = true ∧ zk o = .inl (.int, m)
/-- what picking touches -/
def tPik (O o k : Nat) : Bool := (Nat.beq o O && Nat.beq k 4) || (Nat.beq o 79 && Nat.beq k 13) || Nat.beq o 86 || Nat.beq o 87
def lPk (L L' : zL) : Prop := ∀ o k, ¬ (o = 79 ∧ k = 15) → L' o k = L o k
theorem lPk_0 (L : zL) : lPk L L := fun _ _ _ => rfl
theorem lPk_tr {L L' L'' : zL} (h : lPk L L') (h2 : lPk L' L'') : lPk L L'' := fun o k z => (h2 o k z).trans (h o k z)
/-- a picker's state stays where its own cells stay -/
def kTst {τ : Type} (T : τ → zI → zL → Prop) : Prop := ∀ t I L I' L', T t I L → I' 79 13 = I 79 13 → I' 79 14 = I 79 14 → I' 86 = I 86 → I' 87 = I 87 → L' 79 15 = L 79 15 → T t I' L'
/-- what a picker's contract says: 'pf' tells what is picked, where 'V' holds -/
def kPK {τ : Type} (G : zG) (n X : Nat) (g : zg) (O B P : Nat) (q : zq) (T : τ → zI → zL → Prop) (V : sC × τ → (Nat → Nat) → Nat → Prop) (pf : sC × τ → (Nat → Nat) → Nat → Nat × (sC × τ)) : Prop := ∀ (s : sC × τ) (w : Nat → Nat) (many aW mW : Nat) (I : zI) (L : zL) (post : zPo), kC g s.1 O B P I → T s.2 I L → kAr aW mW → many ≤ mW → mW < 100 → (∀ k, k < many → I aW k = nI (w k)) → (∀ k, k < many → w k ≤ 20000) → 0 < sSum w many → sSum w many ≤ 200000 → V s w many → (∀ (I' : zI) (L' : zL), kC g (pf s w many).2.1 O B P I' → T (pf s w many).2.2 I' L' → zFr (tPik O) I I' → lPk L L' → post (some (.int (nI (pf s w many).1))) I' L' (zR1 q)) → zC G (n + 2) (yPk X) [.ref X, .ref O, .ref aW, .int (nI many), .int (nI (sSum w many))] I L (zR1 q) post
/-- what is picked is there, and but R the chest stays -/
def kPf {τ : Type} (V : sC × τ → (Nat → Nat) → Nat → Prop) (pf : sC × τ → (Nat → Nat) → Nat → Nat × (sC × τ)) : Prop := ∀ (s : sC × τ) (w : Nat → Nat) (many : Nat), 0 < sSum w many → V s w many → (pf s w many).1 < many ∧ 0 < w (pf s w many).1 ∧ ∃ r, (pf s w many).2.1 = cSetR s.1 r
/-- drawing as the document says -/
def pfD (s : sC × Unit) (w : Nat → Nat) (many : Nat) : Nat × (sC × Unit) := (sPick w many 0 (sDr s.1.2.2.2.2 (sSum w many)), (cSetR s.1 (sRnd s.1.2.2.2.2), ()))
def vT {τ : Type} (_ : sC × τ) (_ : Nat → Nat) (_ : Nat) : Prop := True
def tU1 (_ : Unit) (_ : zI) (_ : zL) : Prop := True
theorem pfD_ok : kPf vT pfD := fun s w many h _ => by
  have hd : sDr s.1.2.2.2.2 (sSum w many) < sS w many 0 := by rw [sS_0]; exact sDr_lt h
  have q := sPick_in w many 0 _ hd
  exact ⟨by have := q.2.1; show sPick _ _ _ _ < _; omega, q.2.2, _, rfl⟩
/-- fresh beads by stones, in an array -/
def kFr (fr : Nat → Nat) (fA : Nat) (I : zI) : Prop := ∀ s, s < 21 → I fA s = nI (fr s) ∧ fr s ≤ 20
section
variable {G : zG} {n : Nat} {I : zI} {L : zL} {R : zR} {q : zq} {post : zPo} {g : zg} {c : sC} {X M A K W N O B P : Nat}
theorem sPick_eq (w : Nat → Nat) : ∀ f k l, l < sS w f k → sPick w f k l < k + f := fun f k l h => (sPick_in w f k l h).2.1
theorem k_pick (hX : X = 72) (hO : kCo O B P) : kPK (τ := Unit) G n X g O B P q tU1 vT pfD := by
  intro s w many aW mW I L post hc _ hA hm hmW hw hwb h0 hs _ h
  obtain ⟨hz, hk⟩ := hA
  subst hX
  have hO' := hO
  have loop : ∀ (J : zI), (∀ k, k < many → J aW k = nI (w k)) → kC g (cSetR s.1 (sRnd s.1.2.2.2.2)) O B P J → zFr (tPik O) I J → ∀ j i l, i + j = many → l < sS w j i → l < 2 ^ 30 → sPick w j i l = sPick w many 0 (sDr s.1.2.2.2.2 (sSum w many)) → zQ G 152 (n + 1) post 11 [some (.ref 72), some (.ref O), some (.ref aW), some (.int (nI many)), some (.int (nI (sSum w many))), some (.int (nI l)), some (.int (nI i))] [] J L (zR1 q) := by
    intro J hJ hcJ hf j
    induction j with
    | zero =>
      intro i l hi hl
      exact absurd hl (Nat.not_lt_zero _)
    | succ j ih =>
      intro i l hi hl hl2 he
      have hcl : (nI i).toNatClampNeg = i := nI_clamp (by omega)
      have hwi := hwb i (by omega)
      refine b152_11 (pk_le many i (fun z => absurd z (by omega)) (fun _ => zck_t hz (zan_t hk (pk_le mW i (fun z => absurd z (by omega)) (fun _ => zck_t hz (zai_t hk (And.intro (vp_in_nI (by omega) (by omega)) ?_))) rfl rfl (by omega) (by omega)))) rfl rfl (by omega) (by omega))
      rw [hcl, hJ i (by omega)]
      rw [sPick] at he
      have hl : l < w i + sS w j (i + 1) := hl
      refine pk_le (w i) l (fun d => b152_36 (zck_t hz (zai_t hk (And.intro (vp_in_nI (by omega) (by omega)) ?_)))) (fun d => ?_) rfl rfl (by omega) (by omega)
      · rw [hcl, hJ i (by omega)]
        rw [if_neg (by omega)] at he
        have qq := ih (i + 1) (l - w i) (by omega) (by omega) (by omega) he
        rw [← nI_1, ← pk_sub d] at qq
        exact qq
      · rw [if_pos d] at he
        have := h J L hcJ trivial hf (lPk_0 L)
        have e : (pfD s w many).1 = i := he.symm
        rw [e] at this
        exact this
  refine zin0 rfl rfl rfl (b152_0 ?_)
  have dr : ∀ post' : zPo, (∀ I' : zI, kC g (cSetR s.1 (sRnd s.1.2.2.2.2)) O B P I' → zFr (tPik O) I I' → I' aW = I aW → post' (some (.int (nI (sDr s.1.2.2.2.2 (sSum w many))))) I' L (zR1 q)) → zC G (n + 1) 140 [.ref O, .int (nI (sSum w many))] I L (zR1 q) post' := by
    intro post' hp
    obtain ⟨n1, n2, n3⟩ := kCo_ne hO
    have cg := hp (zup I O 4 (sRnd s.1.2.2.2.2)) (kC_R n2 n3 hc) (zFr_up (zFr_0 _ _) (by unfold tPik; rw [Nat.beq_refl]; rfl)) (zup_ne (fun z => by
      subst z
      unfold kCo at hO
      rcases hO with ⟨o1, -, -⟩ | ⟨o1, -, -⟩ | ⟨o1, -, -⟩ | ⟨o1, -, -⟩ | ⟨o1, -, -⟩ <;> (subst o1; cases hk)))
    have hl := zbv_lt (sRnd s.1.2.2.2.2)
    have j4 := hc.2.2.2.2
    have e : ∀ w' : Int32, w' = sRnd s.1.2.2.2.2 → (w'.toUInt32 >>> ((16 : Int32).toUInt32 &&& Int32.toUInt32 31)).toInt32 - (w'.toUInt32 >>> ((16 : Int32).toUInt32 &&& Int32.toUInt32 31)).toInt32 / nI (sSum w many) * nI (sSum w many) = nI (sDr s.1.2.2.2.2 (sSum w many)) := by
      intro w' hw'
      subst hw'
      rw [zush, pk_rem (by omega) h0 (by omega)]
      rfl
    have z1 : ¬ nI (sSum w many) ≤ 0 := Int32.not_le.mpr ((nI_ltI (a := 0) (by omega) (by omega)).mpr h0)
    have z2 : ¬ nI (sSum w many) = 0 := nI_ne0 h0 (by omega)
    rcases hO with ⟨o1, o2, o3⟩ | ⟨o1, o2, o3⟩ | ⟨o1, o2, o3⟩ | ⟨o1, o2, o3⟩ | ⟨o1, o2, o3⟩ <;> (
      subst o1 o2 o3
      refine zin0 rfl rfl rfl (b140_0 (And.intro (fun z => absurd z z1) (fun _ => And.intro z2 (b140_32 ?_))))
      rw [e _ (by rw [zup_self, j4]; rfl), j4]
      exact cg)
  have fin : ∀ I' : zI, kC g (cSetR s.1 (sRnd s.1.2.2.2.2)) O B P I' → zFr (tPik O) I I' → I' aW = I aW → zQ G 152 (n + 1) post 11 [some (.ref 72), some (.ref O), some (.ref aW), some (.int (nI many)), some (.int (nI (sSum w many))), some (.int (nI (sDr s.1.2.2.2.2 (sSum w many)))), some (.int (nI 0))] [] I' L (zR1 q) := by
    intro I' a1 a2 a3
    have hd : sDr s.1.2.2.2.2 (sSum w many) < sSum w many := sDr_lt h0
    exact loop I' (fun k hk => by rw [a3]; exact hw k hk) a1 a2 many 0 _ (Nat.zero_add _) (by rw [sS_0]; exact hd) (by omega) rfl
  have hO2 := hO
  rcases hO2 with ⟨o1, o2, o3⟩ | ⟨o1, o2, o3⟩ | ⟨o1, o2, o3⟩ | ⟨o1, o2, o3⟩ | ⟨o1, o2, o3⟩ <;> (
    subst o1 o2 o3
    exact dr _ fin)
theorem k_entryFor {fr : Nat → Nat} {fA st : Nat} (hA : kAr fA 21) (hf : kFr fr fA I) (hs : st < 2 ^ 31) (h : post (some (.int (nI (fr (min 20 st))))) I L R) : zC G (n + 1) 300 [.ref fA, .int (nI st)] I L R post := by
  obtain ⟨hz, hk⟩ := hA
  have em : (if nI st < (20 : Int32) then nI st else 20) = nI (min 20 st) := nI_min (a := 20) (by omega) hs
  have em2 : (if (0 : Int32) < (if nI st < (20 : Int32) then nI st else 20) then (if nI st < (20 : Int32) then nI st else 20) else 0) = nI (min 20 st) := by
    rw [em]
    split
    · rfl
    · rename_i z
      have z2 : ¬ 0 < min 20 st := fun w => z ((nI_ltI (a := 0) (by omega) (by omega)).mpr w)
      rw [show min 20 st = 0 by omega]
      rfl
  refine zin0 rfl rfl rfl (b300_0 ?_)
  have fin : ∀ v : Int32, v = nI (min 20 st) → ((Int32.ofNat 21 ≤ v → zQ G 300 n post 23 [some (.ref fA), some (.int (nI st)), some (.int v)] [] I L R) ∧ (¬ Int32.ofNat 21 ≤ v → zck (zin fA zNN) (zai (zk fA) fun m => vp_in v m ∧ zQ G 300 n post 24 [some (.ref fA), some (.int (nI st)), some (.int v)] [.int (I fA v.toNatClampNeg)] I L R))) := by
    intro v hv
    subst hv
    refine pk_le 21 (min 20 st) (fun z => absurd z (by omega)) (fun _ => zck_t hz (zai_t hk (And.intro (vp_in_nI (by omega) (by decide)) (b300_24 ?_)))) rfl rfl (by omega) (by omega)
    rw [nI_clamp (by omega), (hf (min 20 st) (by omega)).1]
    exact h
  exact zck_t hz (zan_t hk (fin _ em2))
end
