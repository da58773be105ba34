-- ===== the class: games by draws; whether so many last =====
theorem gGm_D {g : zg} (hg : gOk g) {F : zfo} (hok : foOk F) (fr : Nat → Nat) (rl : zrl) (ru : Option Nat) (c : sC) : gAns g (gRun pfD g fr F 21 (sFirst g) (c, ()) [] []) = (sGm g fr rl ru F c).1 ∧ gPaid g rl ru (gRun pfD g fr F 21 (sFirst g) (c, ()) [] []) = (sGm g fr rl ru F c).2.1 ∧ (gRun pfD g fr F 21 (sFirst g) (c, ()) [] []).2.2.2.1 = (sGm g fr rl ru F c).2.2 := by
  rw [gRun_D hg hok]
  unfold sGm sHow gAns gPaid gHow
  generalize sPlay g fr F 21 (sFirst g) c [] [] = S
  obtain ⟨p, c2, ds, ts, em⟩ := S
  cases em <;> exact ⟨rfl, rfl, rfl⟩
section
variable {G : zG} {n : Nat} {I : zI} {L : zL} {q : zq} {post : zPo} {g : zg} {F : zfo} {fr : Nat → Nat} {X M A K W N O B P fA FO FA FB FC FD RO RA RT : Nat} {rl : zrl} {ru : Option Nat} {rv : Value} {c : sC}
/-- the games of a contest: what they need -/
def kGw (g : zg) (X M A K W N O B P FO FA FB FC FD RO RA RT : Nat) (F : zfo) (rl : zrl) (ru : Option Nat) (rv : Value) (I : zI) : Prop := kFo FO FA FB FC FD F I ∧ kLay g I ∧ (∀ k, k < 9 → I N k = 1) ∧ kRv rl ru rv RO RA RT I
theorem kGw_of {I' : zI} (hX : kXo X M A K W N O B P) (hO : kFb FO FA FB FC FD) (h : kGw g X M A K W N O B P FO FA FB FC FD RO RA RT F rl ru rv I) (ho : ∀ o, (o ≤ 61 ∨ 88 ≤ o ∨ o = N) → I' o = I o) : kGw g X M A K W N O B P FO FA FB FC FD RO RA RT F rl ru rv I' := by
  obtain ⟨h1, h2, h3, h4⟩ := h
  have fhi := kFb_hi hO
  refine ⟨?_, kLay_of h2 (fun o _ z => ho o (.inl z)), fun k hk => by rw [ho N (.inr (.inr rfl))]; exact h3 k hk, kRv_of h4 (fun o z => ho o (.inr (.inl z)))⟩
  unfold kFo
  rw [ho FO (.inr (.inl (by omega))), ho FA (.inr (.inl (by omega))), ho FB (.inr (.inl (by omega))), ho FC (.inr (.inl (by omega))), ho FD (.inr (.inl (by omega)))]
  exact h1
/-- one game by draws -/
theorem k_meetD (hX : kXo X M A K W N O B P) (h72 : X = 72) (hO : kFb FO FA FB FC FD) (hok : foOk F) (hw : kGw g X M A K W N O B P FO FA FB FC FD RO RA RT F rl ru rv I) (hfA : kAr fA 21 ∧ (fA = 69 ∨ fA = 78)) (hfr : kFr fr fA I) (hc : kC g c O B P I) (hin : cIn g c) (h : ∀ I' : zI, kC g (sGm g fr rl ru F c).2.1 O B P I' → kMs X M (sGm g fr rl ru F c).2.2 I' → pFr (pMt X M A K W O B P) I I' → ∀ L' : zL, lPk L L' → post (some (.int (nI (sGm g fr rl ru F c).1))) I' L' (zR1 q)) : zC G (n + 5) 148 [.ref X, .ref O, .ref FO, rv, .ref fA] I L (zR1 q) post := by
  obtain ⟨h1, h2, h3, h4⟩ := hw
  have hg := h2.1.1
  obtain ⟨e1, e2, e3⟩ := gGm_D hg hok fr rl ru c
  refine k_meet (s := (c, ())) (T := tU1) (V := vT) (pf := pfD) hX hO hok h1 (fun m => k_pick h72 (kXo_co hX)) (fun _ _ _ _ _ _ _ _ _ _ _ => trivial) pfD_ok hfA h2 hfr h3 h4 hc trivial hin (gVR_T _ _ _) (fun I' L' c1 _ m1 _ _ f1 l1 => ?_)
  rw [e1]
  rw [e2] at c1
  rw [e3] at m1
  exact h I' c1 m1 f1 L' l1
set_option maxHeartbeats 1500000 in
theorem k_lasts {v : Int32} {vn k : Nat} (hX : kXo X M A K W N O B P) (h72 : X = 72) (hO : kFb FO FA FB FC FD) (hok : foOk F) (hw : kGw g X M A K W N O B P FO FA FB FC FD RO RA RT F rl ru rv I) (hv : v = nI vn) (hv20 : vn ≤ 20) (hk : k < 2 ^ 30) (hc : kC g c O B P I) (hin : cIn g c) (h : ∀ (c' : sC) (I' : zI), kC g c' O B P I' → pFr (fun o k => pMt X M A K W O B P o k ∨ o = 78) I I' → ∀ L' : zL, lPk L L' → post (some (.int (zbo (sLst g (fun _ => vn) rl ru F k c)))) I' L' (zR1 q)) : zC G (n + 6) 149 [.ref X, .ref O, .ref FO, rv, .int v, .int (nI k)] I L (zR1 q) post := by
  have hX' := hX
  have n78 := (kXo_f hX).2.2.2.2.2.2
  have nN := (kXo_f hX).2.2.2.2.1
  have hge := (kXo_f hX).1
  have n78N : N ≠ 78 := by
    rcases hX with ⟨x1, x2, x3, x4, y5, y6, x7, x8, x9⟩ | ⟨x1, x2, x3, x4, y5, y6, x7, x8, x9⟩ | ⟨x1, x2, x3, x4, y5, y6, x7, x8, x9⟩ <;> (subst y6; decide)
  have hrv : rv = .null ∨ ∃ o, rv = .ref o := by
    have := hw.2.2.2
    cases ru with
    | none => exact .inl this
    | some r => exact .inr ⟨RO, this.1⟩
  subst hv
  have key : ∀ j i (c' : sC) (J : zI) (L1 : zL), i + j = k → cIn g c' → kC g c' O B P J → (∀ s, s < 21 → J 78 s = nI vn) → pFr (fun o k => pMt X M A K W O B P o k ∨ o = 78) I J → lPk L L1 → sLst g (fun _ => vn) rl ru F j c' = sLst g (fun _ => vn) rl ru F k c → zQ G 149 (n + 5) post 12 [some (.ref X), some (.ref O), some (.ref FO), some rv, some (.int (nI vn)), some (.int (nI k)), some (.int (nI i))] [] J L1 (zR1 q) := by
    intro j
    induction j with
    | zero =>
      intro i c' J L1 hi ic jc j78 jf jl es
      have hh := h c' J jc jf L1 jl
      rw [← es] at hh
      have hh : post (some (.int 1)) J L1 (zR1 q) := hh
      exact b149_12 (pk_le k i (fun _ => b149_42 (And.intro rfl hh)) (fun z => absurd z (by omega)) rfl rfl (by omega) (by omega))
    | succ j ih =>
      intro i c' J L1 hi ic jc j78 jf jl es
      rw [sLst] at es
      have wJ : kGw g X M A K W N O B P FO FA FB FC FD RO RA RT F rl ru rv J := kGw_of hX' hO hw (fun o z => funext fun k => jf o k (fun w => w.elim (fun w => pMt_far hX' (z.elim .inl fun z => z.elim (fun z => .inr (.inl z)) fun z => .inr (.inr (.inr (.inr z)))) w) (fun w => by
        subst w
        rcases z with z | z | z
        · omega
        · omega
        · exact n78N z.symm)))
      have m := fun post' hp => k_meetD (G := G) (n := n) (I := J) (L := L1) (q := q) (post := post') (fr := fun _ => vn) (fA := 78) hX' h72 hO hok wJ ⟨⟨rfl, rfl⟩, .inr rfl⟩ (fun s hs => ⟨j78 s hs, hv20⟩) jc ic hp
      have m3 := sGm_how (g := g) (fr := fun _ => vn) (rl := rl) (ru := ru) (F := F) (c := c')
      have nx : ∀ (J2 : zI) (L2 : zL), (sGm g (fun _ => vn) rl ru F c').1 ≠ 3 → kC g (sGm g (fun _ => vn) rl ru F c').2.1 O B P J2 → pFr (pMt X M A K W O B P) J J2 → lPk L1 L2 → zQ G 149 (n + 5) post 36 [some (.ref X), some (.ref O), some (.ref FO), some rv, some (.int (nI vn)), some (.int (nI k)), some (.int (nI i))] [] J2 L2 (zR1 q) := by
        intro J2 L2 z c2 f2 l2
        rw [if_neg z] at es
        have qq := ih (i + 1) _ J2 L2 (by omega) (sGm_in wJ.2.1.1.1 ic) c2 (fun s hs => by rw [f2 78 s (pMt_far hX' (.inr (.inr (.inr (.inl rfl)))))]; exact j78 s hs) (pFr_tr jf (pFr_le f2 fun o k z => .inl z)) (lPk_tr jl l2) es
        rw [← nI_1] at qq
        rcases hrv with rfl | ⟨o, rfl⟩ <;> exact b149_36 qq
      have no : ∀ (J2 : zI) (L2 : zL), (sGm g (fun _ => vn) rl ru F c').1 = 3 → kC g (sGm g (fun _ => vn) rl ru F c').2.1 O B P J2 → pFr (pMt X M A K W O B P) J J2 → lPk L1 L2 → post (some (.int 0)) J2 L2 (zR1 q) := by
        intro J2 L2 z c2 f2 l2
        rw [if_pos z] at es
        have hh := h _ J2 c2 (pFr_tr jf (pFr_le f2 fun o k z => .inl z)) L2 (lPk_tr jl l2)
        rw [← es] at hh
        exact hh
      subst h72
      rcases hrv with rfl | ⟨o, rfl⟩ <;> (
        refine b149_12 (pk_le k i (fun z => absurd z (by omega)) (fun _ => m _ (fun J2 c2 _ f2 L2 l2 => ?_)) rfl rfl (by omega) (by omega))
        exact pk_ne (sGm g (fun _ => vn) rl ru F c').1 3 (fun z => nx J2 L2 z c2 f2 l2) (fun z => And.intro rfl (no J2 L2 z c2 f2 l2)) rfl rfl (by omega) (by omega))
  subst h72
  have st : ∀ J : zI, (∀ s, s < 21 → J 78 s = nI vn) → (∀ o, o ≠ 78 → J o = I o) → zQ G 149 (n + 5) post 12 [some (.ref 72), some (.ref O), some (.ref FO), some rv, some (.int (nI vn)), some (.int (nI k)), some (.int (nI 0))] [] J L (zR1 q) := by
    intro J j78 jo
    obtain ⟨-, -, -, -, -, c6, c7, c8⟩ := n78
    exact key k 0 c J L (by omega) hin (kC_of hc (jo B c7) (jo P c8) (fun k _ => by rw [jo O c6])) j78 (fun o k z => by rw [jo o (fun w => z (.inr w))]) (lPk_0 L) rfl
  rcases hrv with rfl | ⟨o, rfl⟩ <;> exact zin0 rfl rfl rfl (b149_0 (k_fill rfl rfl (by decide) (fun J a b => st J a b)))
end
