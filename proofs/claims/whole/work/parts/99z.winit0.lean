-- ===== the class's constructor (printed by gen99z.py) =====
def uI : List (Nat × Nat × Nat × Int32) → zI
  | [], _, _ => 0
  | e :: t, a, c => bif Nat.beq a e.1 && (Nat.ble e.2.1 c && Nat.blt c e.2.2.1) then e.2.2.2 else uI t a c
def uR : List (Nat × Nat × Nat) → zR
  | [], _, _ => none
  | e :: t, a, c => bif Nat.beq a e.1 && Nat.beq c e.2.1 then some e.2.2 else uR t a c
def z0 : zL := fun _ _ => 0
def uNo {α : Type} (a : Nat) : List (Nat × α) → Bool
  | [] => true
  | e :: t => !(Nat.beq a e.1) && uNo a t
def uOk {α : Type} (b : Nat) : List (Nat × α) → Bool
  | [] => true
  | e :: t => Nat.ble e.1 b && uOk b t
theorem uNo_of {α : Type} {a b : Nat} {l : List (Nat × α)} (h : uOk b l = true) (hb : Nat.blt b a = true) : uNo a l = true := by
  induction l with
  | nil => rfl
  | cons e t ih =>
    obtain ⟨h1, h2⟩ := Bool.and_eq_true_iff.mp h
    have h1 := Nat.le_of_ble_eq_true h1
    have hb' : b < a := Nat.le_of_ble_eq_true hb
    show (!(Nat.beq a e.1) && uNo a t) = true
    rw [ih h2, zbeq_f (show a ≠ e.1 by omega)]
    rfl
theorem uI_no {a k : Nat} : ∀ {l : List (Nat × Nat × Nat × Int32)}, uNo a l = true → uI l a k = 0
  | [], _ => rfl
  | e :: t, h => by
    obtain ⟨h1, h2⟩ := Bool.and_eq_true_iff.mp h
    show (bif Nat.beq a e.1 && _ then _ else uI t a k) = 0
    cases z : Nat.beq a e.1 with
    | true => rw [z] at h1; cases h1
    | false => exact uI_no h2
theorem uR_no {a k : Nat} : ∀ {l : List (Nat × Nat × Nat)}, uNo a l = true → uR l a k = none
  | [], _ => rfl
  | e :: t, h => by
    obtain ⟨h1, h2⟩ := Bool.and_eq_true_iff.mp h
    show (bif Nat.beq a e.1 && _ then _ else uR t a k) = none
    cases z : Nat.beq a e.1 with
    | true => rw [z] at h1; cases h1
    | false => exact uR_no h2
theorem uI_new {a : Nat} {l : List (Nat × Nat × Nat × Int32)} (h : uNo a l = true) : zrow (uI l) a (fun _ => 0) = uI l := by
  funext o k
  by_cases e : o = a
  · subst e
    exact (if_pos rfl).trans (uI_no h).symm
  · exact if_neg e
theorem uR_new {a : Nat} {l : List (Nat × Nat × Nat)} (h : uNo a l = true) : zrow (uR l) a (fun _ => none) = uR l := by
  funext o k
  by_cases e : o = a
  · subst e
    exact (if_pos rfl).trans (uR_no h).symm
  · exact if_neg e
theorem z0_new {a : Nat} : zrow z0 a (fun _ => 0) = z0 := by
  funext o k
  show (if o = a then (0 : Int64) else 0) = 0
  split <;> rfl
theorem uI_put {o k : Nat} {v : Int32} {l : List (Nat × Nat × Nat × Int32)} : zup (uI l) o k v = uI ((o, k, k + 1, v) :: l) := by
  funext a c
  show (if a = o then (if c = k then v else uI l a c) else uI l a c) = (bif Nat.beq a o && (Nat.ble k c && Nat.blt c (k + 1)) then v else uI l a c)
  by_cases e : a = o
  · subst e
    rw [if_pos rfl, Nat.beq_refl]
    by_cases e2 : c = k
    · subst e2
      have h1 : Nat.ble c c = true := Nat.ble_eq_true_of_le (Nat.le_refl _)
      have h2 : Nat.blt c (c + 1) = true := Nat.ble_eq_true_of_le (Nat.le_refl _)
      rw [if_pos rfl, h1, h2]
      rfl
    · rw [if_neg e2]
      have h : (Nat.ble k c && Nat.blt c (k + 1)) = false := by
        cases z : (Nat.ble k c && Nat.blt c (k + 1)) with
        | false => rfl
        | true =>
          obtain ⟨z1, z2⟩ := Bool.and_eq_true_iff.mp z
          have := Nat.le_of_ble_eq_true z1
          have : c < k + 1 := Nat.le_of_ble_eq_true z2
          omega
      rw [h]
      rfl
  · rw [if_neg e, zbeq_f e]
    rfl
theorem uR_put {o k v : Nat} {l : List (Nat × Nat × Nat)} : zup (uR l) o k (some v) = uR ((o, k, v) :: l) := by
  funext a c
  show (if a = o then (if c = k then some v else uR l a c) else uR l a c) = (bif Nat.beq a o && Nat.beq c k then some v else uR l a c)
  by_cases e : a = o
  · subst e
    rw [if_pos rfl, Nat.beq_refl]
    by_cases e2 : c = k
    · subst e2
      rw [if_pos rfl, Nat.beq_refl]
      rfl
    · rw [if_neg e2, zbeq_f e2]
      rfl
  · rw [if_neg e, zbeq_f e]
    rfl
theorem u_post {post : zPo} {q : Option Value} {I I' : zI} {L L' : zL} {R R' : zR} (hI : I = I') (hL : L = L') (hR : R = R') (h : post q I' L' R') : post q I L R := by
  subst hI
  subst hL
  subst hR
  exact h
theorem u_con {G : zG} {n y N0 E : Nat} {as : List Value} {post : zPo} {I I' : zI} {L L' : zL} {R R' : zR} (hI : I = I') (hL : L = L') (hR : R = R') (h : zCon G n y N0 E as I' L' R' post) : zCon G n y N0 E as I L R post := by
  subst hI
  subst hL
  subst hR
  exact h
section
variable {G : zG} {n : Nat} {post : zPo} {l : List (Nat × Nat × Nat × Int32)} {r : List (Nat × Nat × Nat)}
theorem k_fillN {N o m : Nat} {v : Int32} {L : zL} {R : zR} (hG : G.2.2.2.2.2 = true) (hN : Nat.ble N zNN = true) (hz : zin o N = true) (hk : zk o = .inl (.int, m)) (hm : m < 2 ^ 30) (h : post none (uI ((o, 0, m, v) :: l)) L R) : zCon G (n + 1) 127 N N [.ref o, .int v] (uI l) L R post := by
  have key : ∀ j i, i + j = m → zP G 127 n N N post 5 [some (.ref o), some (.int v), some (.int (nI i)), some (.int (Int32.ofNat m))] [] N (uI ((o, 0, i, v) :: l)) L R := by
    intro j
    induction j with
    | zero =>
      intro i hi
      have e : i = m := by omega
      subst e
      refine b127_5 (pk_le i i (fun _ => b127_20 ?_) (fun z => absurd z (by omega)) rfl rfl (by omega) (by omega))
      exact zck_t (by show (Nat.beq N N && true) = true; rw [Nat.beq_refl]; rfl) h
    | succ j ih =>
      intro i hi
      refine b127_5 (pk_le m i (fun z => absurd z (by omega)) (fun _ => zck_t hz (zai_t hk (And.intro (vp_in_nI (by omega) (by omega)) ?_))) rfl rfl (by omega) (by omega))
      rw [nI_clamp (by omega)]
      have qq := ih (i + 1) (by omega)
      rw [← nI_1] at qq
      have e : zup (uI ((o, 0, i, v) :: l)) o i v = uI ((o, 0, i + 1, v) :: l) := by
        funext a c
        show (if a = o then (if c = i then v else (bif Nat.beq a o && (Nat.ble 0 c && Nat.blt c i) then v else uI l a c)) else (bif Nat.beq a o && (Nat.ble 0 c && Nat.blt c i) then v else uI l a c)) = (bif Nat.beq a o && (Nat.ble 0 c && Nat.blt c (i + 1)) then v else uI l a c)
        by_cases e : a = o
        · subst e
          rw [if_pos rfl, Nat.beq_refl]
          have z0 : Nat.ble 0 c = true := Nat.ble_eq_true_of_le (Nat.zero_le _)
          rw [z0]
          by_cases e2 : c = i
          · subst e2
            have h2 : Nat.blt c (c + 1) = true := Nat.ble_eq_true_of_le (Nat.le_refl _)
            rw [if_pos rfl, h2]
            rfl
          · rw [if_neg e2]
            have h3 : Nat.blt c i = Nat.blt c (i + 1) := by
              cases z : Nat.blt c (i + 1) with
              | false =>
                have := zble_g z
                exact zblt_f (by omega)
              | true =>
                have : c < i + 1 := Nat.le_of_ble_eq_true z
                exact Nat.ble_eq_true_of_le (by omega)
            rw [h3]
        · rw [if_neg e, zbeq_f e]
          rfl
      rw [e]
      exact qq
  have k0 := key m 0 (by omega)
  have e0 : uI ((o, 0, 0, v) :: l) = uI l := by
    funext a c
    show (bif Nat.beq a o && (Nat.ble 0 c && Nat.blt c 0) then v else uI l a c) = uI l a c
    have h3 : Nat.blt c 0 = false := zblt_f (Nat.zero_le _)
    rw [h3, Bool.and_false, Bool.and_false]
    rfl
  rw [e0] at k0
  exact zin00 hG rfl (Nat.ble_eq_true_of_le (Nat.le_refl _)) hN rfl rfl (b127_0 (zck_t hz (zan_t hk k0)))
theorem i234_41 (hG : G.2.2.2.2.2 = true) (h1 : uOk 41 l = true) (h2 : uOk 41 r = true) (h : post none (uI (l)) z0 (uR ((41, 0, 42) :: r))) : zCon G (n + 1) 234 2 3 [.ref 41] (uI l) z0 (uR r) post := by
  refine zin00 hG rfl rfl rfl rfl rfl (b234_0 ?_)
  refine And.intro ⟨by decide, by decide⟩ ?_
  show post none _ _ _
  refine u_post (post := post) (I' := uI (l)) (L' := z0) (R' := uR ((41, 0, 42) :: r)) ?_ ?_ ?_ h
  · rw [uI_new]
    all_goals first | rfl | exact uNo_of (l := l) h1 rfl | exact uNo_of (l := r) h2 rfl
  · rw [z0_new]
  · rw [uR_new, uR_put]
    all_goals first | rfl | exact uNo_of (l := l) h1 rfl | exact uNo_of (l := r) h2 rfl
theorem i179_43 (hG : G.2.2.2.2.2 = true) (h : post none (uI ((43, 2, 3, 3) :: (43, 1, 2, 3) :: (43, 0, 1, 3) :: l)) z0 (uR (r))) : zCon G (n + 1) 179 4 4 [.ref 43] (uI l) z0 (uR r) post := by
  refine zin00 hG rfl rfl rfl rfl rfl (b179_0 ?_)
  show post none _ _ _
  refine u_post (post := post) (I' := uI ((43, 2, 3, 3) :: (43, 1, 2, 3) :: (43, 0, 1, 3) :: l)) (L' := z0) (R' := uR (r)) ?_ ?_ ?_ h
  · rw [uI_put, uI_put, uI_put]
  · rfl
  · rfl
theorem i179_45 (hG : G.2.2.2.2.2 = true) (h : post none (uI ((45, 2, 3, 3) :: (45, 1, 2, 3) :: (45, 0, 1, 3) :: l)) z0 (uR (r))) : zCon G (n + 1) 179 6 6 [.ref 45] (uI l) z0 (uR r) post := by
  refine zin00 hG rfl rfl rfl rfl rfl (b179_0 ?_)
  show post none _ _ _
  refine u_post (post := post) (I' := uI ((45, 2, 3, 3) :: (45, 1, 2, 3) :: (45, 0, 1, 3) :: l)) (L' := z0) (R' := uR (r)) ?_ ?_ ?_ h
  · rw [uI_put, uI_put, uI_put]
  · rfl
  · rfl
theorem i212_44 (hG : G.2.2.2.2.2 = true) (h1 : uOk 44 l = true) (h2 : uOk 44 r = true) (h : post none (uI ((45, 2, 3, 3) :: (45, 1, 2, 3) :: (45, 0, 1, 3) :: l)) z0 (uR ((44, 5, 50) :: (44, 4, 49) :: (44, 3, 48) :: (44, 2, 47) :: (44, 1, 46) :: (44, 0, 45) :: r))) : zCon G (n + 2) 212 5 11 [.ref 44] (uI l) z0 (uR r) post := by
  refine zin00 hG rfl rfl rfl rfl rfl (b212_0 ?_)
  refine And.intro rfl ?_
  show zCon G (n + 1) 179 6 6 [.ref 45] _ _ _ _
  refine u_con (I' := uI (l)) (L' := z0) (R' := uR (r)) ?_ ?_ ?_ ?_
  · rw [uI_new]
    all_goals first | rfl | exact uNo_of (l := l) h1 rfl | exact uNo_of (l := r) h2 rfl
  · rw [z0_new]
  · rw [uR_new]
    all_goals first | rfl | exact uNo_of (l := l) h1 rfl | exact uNo_of (l := r) h2 rfl
  refine i179_45 hG ?_
  refine And.intro ⟨by decide, by decide⟩ ?_
  refine And.intro ⟨by decide, by decide⟩ ?_
  refine And.intro ⟨by decide, by decide⟩ ?_
  refine And.intro ⟨by decide, by decide⟩ ?_
  refine And.intro ⟨by decide, by decide⟩ ?_
  show post none _ _ _
  refine u_post (post := post) (I' := uI ((45, 2, 3, 3) :: (45, 1, 2, 3) :: (45, 0, 1, 3) :: l)) (L' := z0) (R' := uR ((44, 5, 50) :: (44, 4, 49) :: (44, 3, 48) :: (44, 2, 47) :: (44, 1, 46) :: (44, 0, 45) :: r)) ?_ ?_ ?_ h
  · rw [uI_new, uI_new, uI_new, uI_new, uI_new]
    all_goals first | rfl | exact uNo_of (l := l) h1 rfl | exact uNo_of (l := r) h2 rfl
  · rw [z0_new, z0_new, z0_new, z0_new, z0_new]
  · rw [uR_put, uR_new, uR_put, uR_new, uR_put, uR_new, uR_put, uR_new, uR_put, uR_new, uR_put]
    all_goals first | rfl | exact uNo_of (l := l) h1 rfl | exact uNo_of (l := r) h2 rfl
theorem i185_51 (hG : G.2.2.2.2.2 = true) (h1 : uOk 51 l = true) (h2 : uOk 51 r = true) (h : post none (uI ((51, 1, 2, 1) :: l)) z0 (uR ((51, 0, 44) :: (51, 12, 61) :: (51, 11, 60) :: (51, 10, 59) :: (51, 9, 58) :: (51, 8, 57) :: (51, 7, 56) :: (51, 6, 55) :: (51, 5, 54) :: (51, 4, 53) :: (51, 3, 52) :: r))) : zCon G (n + 1) 185 12 22 [.ref 51, .ref 44] (uI l) z0 (uR r) post := by
  refine zin00 hG rfl rfl rfl rfl rfl (b185_0 ?_)
  refine And.intro ⟨rfl, rfl⟩ ?_
  refine And.intro ⟨by decide, by decide⟩ ?_
  refine And.intro ⟨by decide, by decide⟩ ?_
  refine And.intro ⟨by decide, by decide⟩ ?_
  refine And.intro ⟨by decide, by decide⟩ ?_
  refine And.intro ⟨by decide, by decide⟩ ?_
  refine And.intro ⟨by decide, by decide⟩ ?_
  refine And.intro ⟨by decide, by decide⟩ ?_
  refine And.intro ⟨by decide, by decide⟩ ?_
  refine And.intro ⟨by decide, by decide⟩ ?_
  refine And.intro ⟨by decide, by decide⟩ ?_
  show post none _ _ _
  refine u_post (post := post) (I' := uI ((51, 1, 2, 1) :: l)) (L' := z0) (R' := uR ((51, 0, 44) :: (51, 12, 61) :: (51, 11, 60) :: (51, 10, 59) :: (51, 9, 58) :: (51, 8, 57) :: (51, 7, 56) :: (51, 6, 55) :: (51, 5, 54) :: (51, 4, 53) :: (51, 3, 52) :: r)) ?_ ?_ ?_ h
  · rw [uI_put, uI_new, uI_new, uI_new, uI_new, uI_new, uI_new, uI_new, uI_new, uI_new, uI_new]
    all_goals first | rfl | exact uNo_of (l := l) h1 rfl | exact uNo_of (l := r) h2 rfl
  · rw [z0_new, z0_new, z0_new, z0_new, z0_new, z0_new, z0_new, z0_new, z0_new, z0_new]
  · rw [uR_new, uR_put, uR_new, uR_put, uR_new, uR_put, uR_new, uR_put, uR_new, uR_put, uR_new, uR_put, uR_new, uR_put, uR_new, uR_put, uR_new, uR_put, uR_new, uR_put, uR_put]
    all_goals first | rfl | exact uNo_of (l := l) h1 rfl | exact uNo_of (l := r) h2 rfl
theorem i128_62 (hG : G.2.2.2.2.2 = true) (h1 : uOk 62 l = true) (h2 : uOk 62 r = true) (h : post none (uI ((62, 4, 5, 1) :: (62, 2, 3, 10000) :: l)) z0 (uR ((62, 1, 64) :: (62, 0, 63) :: r))) : zCon G (n + 1) 128 23 25 [.ref 62] (uI l) z0 (uR r) post := by
  refine zin00 hG rfl rfl rfl rfl rfl (b128_0 ?_)
  refine And.intro ⟨by decide, by decide⟩ ?_
  refine And.intro ⟨by decide, by decide⟩ ?_
  show post none _ _ _
  refine u_post (post := post) (I' := uI ((62, 4, 5, 1) :: (62, 2, 3, 10000) :: l)) (L' := z0) (R' := uR ((62, 1, 64) :: (62, 0, 63) :: r)) ?_ ?_ ?_ h
  · rw [uI_new, uI_new, uI_put, uI_put]
    all_goals first | rfl | exact uNo_of (l := l) h1 rfl | exact uNo_of (l := r) h2 rfl
  · rw [z0_new, z0_new]
  · rw [uR_new, uR_put, uR_new, uR_put]
    all_goals first | rfl | exact uNo_of (l := l) h1 rfl | exact uNo_of (l := r) h2 rfl
theorem i128_65 (hG : G.2.2.2.2.2 = true) (h1 : uOk 65 l = true) (h2 : uOk 65 r = true) (h : post none (uI ((65, 4, 5, 1) :: (65, 2, 3, 10000) :: l)) z0 (uR ((65, 1, 67) :: (65, 0, 66) :: r))) : zCon G (n + 1) 128 26 28 [.ref 65] (uI l) z0 (uR r) post := by
  refine zin00 hG rfl rfl rfl rfl rfl (b128_0 ?_)
  refine And.intro ⟨by decide, by decide⟩ ?_
  refine And.intro ⟨by decide, by decide⟩ ?_
  show post none _ _ _
  refine u_post (post := post) (I' := uI ((65, 4, 5, 1) :: (65, 2, 3, 10000) :: l)) (L' := z0) (R' := uR ((65, 1, 67) :: (65, 0, 66) :: r)) ?_ ?_ ?_ h
  · rw [uI_new, uI_new, uI_put, uI_put]
    all_goals first | rfl | exact uNo_of (l := l) h1 rfl | exact uNo_of (l := r) h2 rfl
  · rw [z0_new, z0_new]
  · rw [uR_new, uR_put, uR_new, uR_put]
    all_goals first | rfl | exact uNo_of (l := l) h1 rfl | exact uNo_of (l := r) h2 rfl
theorem i128_98 (hG : G.2.2.2.2.2 = true) (h1 : uOk 98 l = true) (h2 : uOk 98 r = true) (h : post none (uI ((98, 4, 5, 1) :: (98, 2, 3, 10000) :: l)) z0 (uR ((98, 1, 100) :: (98, 0, 99) :: r))) : zCon G (n + 1) 128 59 61 [.ref 98] (uI l) z0 (uR r) post := by
  refine zin00 hG rfl rfl rfl rfl rfl (b128_0 ?_)
  refine And.intro ⟨by decide, by decide⟩ ?_
  refine And.intro ⟨by decide, by decide⟩ ?_
  show post none _ _ _
  refine u_post (post := post) (I' := uI ((98, 4, 5, 1) :: (98, 2, 3, 10000) :: l)) (L' := z0) (R' := uR ((98, 1, 100) :: (98, 0, 99) :: r)) ?_ ?_ ?_ h
  · rw [uI_new, uI_new, uI_put, uI_put]
    all_goals first | rfl | exact uNo_of (l := l) h1 rfl | exact uNo_of (l := r) h2 rfl
  · rw [z0_new, z0_new]
  · rw [uR_new, uR_put, uR_new, uR_put]
    all_goals first | rfl | exact uNo_of (l := l) h1 rfl | exact uNo_of (l := r) h2 rfl
theorem i128_101 (hG : G.2.2.2.2.2 = true) (h1 : uOk 101 l = true) (h2 : uOk 101 r = true) (h : post none (uI ((101, 4, 5, 1) :: (101, 2, 3, 10000) :: l)) z0 (uR ((101, 1, 103) :: (101, 0, 102) :: r))) : zCon G (n + 1) 128 62 64 [.ref 101] (uI l) z0 (uR r) post := by
  refine zin00 hG rfl rfl rfl rfl rfl (b128_0 ?_)
  refine And.intro ⟨by decide, by decide⟩ ?_
  refine And.intro ⟨by decide, by decide⟩ ?_
  show post none _ _ _
  refine u_post (post := post) (I' := uI ((101, 4, 5, 1) :: (101, 2, 3, 10000) :: l)) (L' := z0) (R' := uR ((101, 1, 103) :: (101, 0, 102) :: r)) ?_ ?_ ?_ h
  · rw [uI_new, uI_new, uI_put, uI_put]
    all_goals first | rfl | exact uNo_of (l := l) h1 rfl | exact uNo_of (l := r) h2 rfl
  · rw [z0_new, z0_new]
  · rw [uR_new, uR_put, uR_new, uR_put]
    all_goals first | rfl | exact uNo_of (l := l) h1 rfl | exact uNo_of (l := r) h2 rfl
theorem i128_104 (hG : G.2.2.2.2.2 = true) (h1 : uOk 104 l = true) (h2 : uOk 104 r = true) (h : post none (uI ((104, 4, 5, 1) :: (104, 2, 3, 10000) :: l)) z0 (uR ((104, 1, 106) :: (104, 0, 105) :: r))) : zCon G (n + 1) 128 65 67 [.ref 104] (uI l) z0 (uR r) post := by
  refine zin00 hG rfl rfl rfl rfl rfl (b128_0 ?_)
  refine And.intro ⟨by decide, by decide⟩ ?_
  refine And.intro ⟨by decide, by decide⟩ ?_
  show post none _ _ _
  refine u_post (post := post) (I' := uI ((104, 4, 5, 1) :: (104, 2, 3, 10000) :: l)) (L' := z0) (R' := uR ((104, 1, 106) :: (104, 0, 105) :: r)) ?_ ?_ ?_ h
  · rw [uI_new, uI_new, uI_put, uI_put]
    all_goals first | rfl | exact uNo_of (l := l) h1 rfl | exact uNo_of (l := r) h2 rfl
  · rw [z0_new, z0_new]
  · rw [uR_new, uR_put, uR_new, uR_put]
    all_goals first | rfl | exact uNo_of (l := l) h1 rfl | exact uNo_of (l := r) h2 rfl
theorem i145_72 (hG : G.2.2.2.2.2 = true) (h1 : uOk 72 l = true) (h2 : uOk 72 r = true) (h : post none (uI ((77, 0, 9, 1) :: l)) z0 (uR ((72, 1, 51) :: (72, 0, 44) :: (72, 10, 78) :: (72, 9, 77) :: (72, 8, 76) :: (72, 5, 75) :: (72, 4, 74) :: (72, 2, 73) :: r))) : zCon G (n + 2) 145 33 39 [.ref 72, .ref 44, .ref 51] (uI l) z0 (uR r) post := by
  refine zin00 hG rfl rfl rfl rfl rfl (b145_0 ?_)
  refine And.intro ⟨by decide, by decide⟩ ?_
  refine And.intro ⟨by decide, by decide⟩ ?_
  refine And.intro ⟨by decide, by decide⟩ ?_
  refine And.intro ⟨by decide, by decide⟩ ?_
  refine And.intro ⟨by decide, by decide⟩ ?_
  refine And.intro ⟨by decide, by decide⟩ ?_
  show zCon G (n + 1) 127 39 39 [.ref 77, .int 1] _ _ _ _
  refine u_con (I' := uI (l)) (L' := z0) (R' := uR ((72, 1, 51) :: (72, 0, 44) :: (72, 10, 78) :: (72, 9, 77) :: (72, 8, 76) :: (72, 5, 75) :: (72, 4, 74) :: (72, 2, 73) :: r)) ?_ ?_ ?_ ?_
  · rw [uI_new, uI_new, uI_new, uI_new, uI_new, uI_new]
    all_goals first | rfl | exact uNo_of (l := l) h1 rfl | exact uNo_of (l := r) h2 rfl
  · rw [z0_new, z0_new, z0_new, z0_new, z0_new, z0_new]
  · rw [uR_new, uR_put, uR_new, uR_put, uR_new, uR_put, uR_new, uR_put, uR_new, uR_put, uR_new, uR_put, uR_put, uR_put]
    all_goals first | rfl | exact uNo_of (l := l) h1 rfl | exact uNo_of (l := r) h2 rfl
  refine k_fillN (m := 9) hG rfl rfl rfl (by decide) ?_
  show post none _ _ _
  refine u_post (post := post) (I' := uI ((77, 0, 9, 1) :: l)) (L' := z0) (R' := uR ((72, 1, 51) :: (72, 0, 44) :: (72, 10, 78) :: (72, 9, 77) :: (72, 8, 76) :: (72, 5, 75) :: (72, 4, 74) :: (72, 2, 73) :: r)) ?_ ?_ ?_ h
  · rfl
  · rfl
  · rfl
theorem i145_79 (hG : G.2.2.2.2.2 = true) (h1 : uOk 79 l = true) (h2 : uOk 79 r = true) (h : post none (uI ((84, 0, 9, 1) :: l)) z0 (uR ((79, 1, 51) :: (79, 0, 44) :: (79, 10, 85) :: (79, 9, 84) :: (79, 8, 83) :: (79, 5, 82) :: (79, 4, 81) :: (79, 2, 80) :: r))) : zCon G (n + 2) 145 40 46 [.ref 79, .ref 44, .ref 51] (uI l) z0 (uR r) post := by
  refine zin00 hG rfl rfl rfl rfl rfl (b145_0 ?_)
  refine And.intro ⟨by decide, by decide⟩ ?_
  refine And.intro ⟨by decide, by decide⟩ ?_
  refine And.intro ⟨by decide, by decide⟩ ?_
  refine And.intro ⟨by decide, by decide⟩ ?_
  refine And.intro ⟨by decide, by decide⟩ ?_
  refine And.intro ⟨by decide, by decide⟩ ?_
  show zCon G (n + 1) 127 46 46 [.ref 84, .int 1] _ _ _ _
  refine u_con (I' := uI (l)) (L' := z0) (R' := uR ((79, 1, 51) :: (79, 0, 44) :: (79, 10, 85) :: (79, 9, 84) :: (79, 8, 83) :: (79, 5, 82) :: (79, 4, 81) :: (79, 2, 80) :: r)) ?_ ?_ ?_ ?_
  · rw [uI_new, uI_new, uI_new, uI_new, uI_new, uI_new]
    all_goals first | rfl | exact uNo_of (l := l) h1 rfl | exact uNo_of (l := r) h2 rfl
  · rw [z0_new, z0_new, z0_new, z0_new, z0_new, z0_new]
  · rw [uR_new, uR_put, uR_new, uR_put, uR_new, uR_put, uR_new, uR_put, uR_new, uR_put, uR_new, uR_put, uR_put, uR_put]
    all_goals first | rfl | exact uNo_of (l := l) h1 rfl | exact uNo_of (l := r) h2 rfl
  refine k_fillN (m := 9) hG rfl rfl rfl (by decide) ?_
  show post none _ _ _
  refine u_post (post := post) (I' := uI ((84, 0, 9, 1) :: l)) (L' := z0) (R' := uR ((79, 1, 51) :: (79, 0, 44) :: (79, 10, 85) :: (79, 9, 84) :: (79, 8, 83) :: (79, 5, 82) :: (79, 4, 81) :: (79, 2, 80) :: r)) ?_ ?_ ?_ h
  · rfl
  · rfl
  · rfl
theorem i247_79 (hG : G.2.2.2.2.2 = true) (h1 : uOk 79 l = true) (h2 : uOk 79 r = true) (h : post none (uI ((84, 0, 9, 1) :: l)) z0 (uR ((79, 16, 88) :: (79, 12, 87) :: (79, 11, 86) :: (79, 1, 51) :: (79, 0, 44) :: (79, 10, 85) :: (79, 9, 84) :: (79, 8, 83) :: (79, 5, 82) :: (79, 4, 81) :: (79, 2, 80) :: r))) : zCon G (n + 3) 247 40 49 [.ref 79, .ref 44, .ref 51] (uI l) z0 (uR r) post := by
  refine zin00 hG rfl rfl rfl rfl rfl (b247_0 ?_)
  show zCon G (n + 2) 145 40 46 [.ref 79, .ref 44, .ref 51] _ _ _ _
  refine i145_79 hG (by assumption) (by assumption) ?_
  refine And.intro ⟨by decide, by decide⟩ ?_
  refine And.intro ⟨by decide, by decide⟩ ?_
  refine And.intro ⟨by decide, by decide⟩ ?_
  show post none _ _ _
  refine u_post (post := post) (I' := uI ((84, 0, 9, 1) :: l)) (L' := z0) (R' := uR ((79, 16, 88) :: (79, 12, 87) :: (79, 11, 86) :: (79, 1, 51) :: (79, 0, 44) :: (79, 10, 85) :: (79, 9, 84) :: (79, 8, 83) :: (79, 5, 82) :: (79, 4, 81) :: (79, 2, 80) :: r)) ?_ ?_ ?_ h
  · rw [uI_new, uI_new, uI_new]
    all_goals first | rfl | exact uNo_of (l := l) h1 rfl | exact uNo_of (l := r) h2 rfl
  · rw [z0_new, z0_new, z0_new]
  · rw [uR_new, uR_put, uR_new, uR_put, uR_new, uR_put]
    all_goals first | rfl | exact uNo_of (l := l) h1 rfl | exact uNo_of (l := r) h2 rfl
theorem i164_89 (hG : G.2.2.2.2.2 = true) (h1 : uOk 89 l = true) (h2 : uOk 89 r = true) (h : post none (uI (l)) z0 (uR ((89, 1, 51) :: (89, 0, 44) :: (89, 5, 93) :: (89, 4, 92) :: (89, 3, 91) :: (89, 2, 90) :: r))) : zCon G (n + 1) 164 50 54 [.ref 89, .ref 44, .ref 51] (uI l) z0 (uR r) post := by
  refine zin00 hG rfl rfl rfl rfl rfl (b164_0 ?_)
  refine And.intro ⟨by decide, by decide⟩ ?_
  refine And.intro ⟨by decide, by decide⟩ ?_
  refine And.intro ⟨by decide, by decide⟩ ?_
  refine And.intro ⟨by decide, by decide⟩ ?_
  show post none _ _ _
  refine u_post (post := post) (I' := uI (l)) (L' := z0) (R' := uR ((89, 1, 51) :: (89, 0, 44) :: (89, 5, 93) :: (89, 4, 92) :: (89, 3, 91) :: (89, 2, 90) :: r)) ?_ ?_ ?_ h
  · rw [uI_new, uI_new, uI_new, uI_new]
    all_goals first | rfl | exact uNo_of (l := l) h1 rfl | exact uNo_of (l := r) h2 rfl
  · rw [z0_new, z0_new, z0_new, z0_new]
  · rw [uR_new, uR_put, uR_new, uR_put, uR_new, uR_put, uR_new, uR_put, uR_put, uR_put]
    all_goals first | rfl | exact uNo_of (l := l) h1 rfl | exact uNo_of (l := r) h2 rfl
theorem i201_96 (hG : G.2.2.2.2.2 = true) (h1 : uOk 96 l = true) (h2 : uOk 96 r = true) (h : post none (uI (l)) z0 (uR ((96, 0, 97) :: r))) : zCon G (n + 1) 201 57 58 [.ref 96] (uI l) z0 (uR r) post := by
  refine zin00 hG rfl rfl rfl rfl rfl (b201_0 ?_)
  refine And.intro ⟨by decide, by decide⟩ ?_
  show post none _ _ _
  refine u_post (post := post) (I' := uI (l)) (L' := z0) (R' := uR ((96, 0, 97) :: r)) ?_ ?_ ?_ h
  · rw [uI_new]
    all_goals first | rfl | exact uNo_of (l := l) h1 rfl | exact uNo_of (l := r) h2 rfl
  · rw [z0_new]
  · rw [uR_new, uR_put]
    all_goals first | rfl | exact uNo_of (l := l) h1 rfl | exact uNo_of (l := r) h2 rfl
theorem i206_107 (hG : G.2.2.2.2.2 = true) (h1 : uOk 107 l = true) (h2 : uOk 107 r = true) (h : post none (uI (l)) z0 (uR ((107, 1, 109) :: (107, 0, 108) :: r))) : zCon G (n + 1) 206 68 70 [.ref 107] (uI l) z0 (uR r) post := by
  refine zin00 hG rfl rfl rfl rfl rfl (b206_0 ?_)
  refine And.intro ⟨by decide, by decide⟩ ?_
  refine And.intro ⟨by decide, by decide⟩ ?_
  show post none _ _ _
  refine u_post (post := post) (I' := uI (l)) (L' := z0) (R' := uR ((107, 1, 109) :: (107, 0, 108) :: r)) ?_ ?_ ?_ h
  · rw [uI_new, uI_new]
    all_goals first | rfl | exact uNo_of (l := l) h1 rfl | exact uNo_of (l := r) h2 rfl
  · rw [z0_new, z0_new]
  · rw [uR_new, uR_put, uR_new, uR_put]
    all_goals first | rfl | exact uNo_of (l := l) h1 rfl | exact uNo_of (l := r) h2 rfl
theorem i206_110 (hG : G.2.2.2.2.2 = true) (h1 : uOk 110 l = true) (h2 : uOk 110 r = true) (h : post none (uI (l)) z0 (uR ((110, 1, 112) :: (110, 0, 111) :: r))) : zCon G (n + 1) 206 71 73 [.ref 110] (uI l) z0 (uR r) post := by
  refine zin00 hG rfl rfl rfl rfl rfl (b206_0 ?_)
  refine And.intro ⟨by decide, by decide⟩ ?_
  refine And.intro ⟨by decide, by decide⟩ ?_
  show post none _ _ _
  refine u_post (post := post) (I' := uI (l)) (L' := z0) (R' := uR ((110, 1, 112) :: (110, 0, 111) :: r)) ?_ ?_ ?_ h
  · rw [uI_new, uI_new]
    all_goals first | rfl | exact uNo_of (l := l) h1 rfl | exact uNo_of (l := r) h2 rfl
  · rw [z0_new, z0_new]
  · rw [uR_new, uR_put, uR_new, uR_put]
    all_goals first | rfl | exact uNo_of (l := l) h1 rfl | exact uNo_of (l := r) h2 rfl
theorem i206_113 (hG : G.2.2.2.2.2 = true) (h1 : uOk 113 l = true) (h2 : uOk 113 r = true) (h : post none (uI (l)) z0 (uR ((113, 1, 115) :: (113, 0, 114) :: r))) : zCon G (n + 1) 206 74 76 [.ref 113] (uI l) z0 (uR r) post := by
  refine zin00 hG rfl rfl rfl rfl rfl (b206_0 ?_)
  refine And.intro ⟨by decide, by decide⟩ ?_
  refine And.intro ⟨by decide, by decide⟩ ?_
  show post none _ _ _
  refine u_post (post := post) (I' := uI (l)) (L' := z0) (R' := uR ((113, 1, 115) :: (113, 0, 114) :: r)) ?_ ?_ ?_ h
  · rw [uI_new, uI_new]
    all_goals first | rfl | exact uNo_of (l := l) h1 rfl | exact uNo_of (l := r) h2 rfl
  · rw [z0_new, z0_new]
  · rw [uR_new, uR_put, uR_new, uR_put]
    all_goals first | rfl | exact uNo_of (l := l) h1 rfl | exact uNo_of (l := r) h2 rfl
theorem i206_116 (hG : G.2.2.2.2.2 = true) (h1 : uOk 116 l = true) (h2 : uOk 116 r = true) (h : post none (uI (l)) z0 (uR ((116, 1, 118) :: (116, 0, 117) :: r))) : zCon G (n + 1) 206 77 79 [.ref 116] (uI l) z0 (uR r) post := by
  refine zin00 hG rfl rfl rfl rfl rfl (b206_0 ?_)
  refine And.intro ⟨by decide, by decide⟩ ?_
  refine And.intro ⟨by decide, by decide⟩ ?_
  show post none _ _ _
  refine u_post (post := post) (I' := uI (l)) (L' := z0) (R' := uR ((116, 1, 118) :: (116, 0, 117) :: r)) ?_ ?_ ?_ h
  · rw [uI_new, uI_new]
    all_goals first | rfl | exact uNo_of (l := l) h1 rfl | exact uNo_of (l := r) h2 rfl
  · rw [z0_new, z0_new]
  · rw [uR_new, uR_put, uR_new, uR_put]
    all_goals first | rfl | exact uNo_of (l := l) h1 rfl | exact uNo_of (l := r) h2 rfl
theorem i206_119 (hG : G.2.2.2.2.2 = true) (h1 : uOk 119 l = true) (h2 : uOk 119 r = true) (h : post none (uI (l)) z0 (uR ((119, 1, 121) :: (119, 0, 120) :: r))) : zCon G (n + 1) 206 80 82 [.ref 119] (uI l) z0 (uR r) post := by
  refine zin00 hG rfl rfl rfl rfl rfl (b206_0 ?_)
  refine And.intro ⟨by decide, by decide⟩ ?_
  refine And.intro ⟨by decide, by decide⟩ ?_
  show post none _ _ _
  refine u_post (post := post) (I' := uI (l)) (L' := z0) (R' := uR ((119, 1, 121) :: (119, 0, 120) :: r)) ?_ ?_ ?_ h
  · rw [uI_new, uI_new]
    all_goals first | rfl | exact uNo_of (l := l) h1 rfl | exact uNo_of (l := r) h2 rfl
  · rw [z0_new, z0_new]
  · rw [uR_new, uR_put, uR_new, uR_put]
    all_goals first | rfl | exact uNo_of (l := l) h1 rfl | exact uNo_of (l := r) h2 rfl
theorem i206_122 (hG : G.2.2.2.2.2 = true) (h1 : uOk 122 l = true) (h2 : uOk 122 r = true) (h : post none (uI (l)) z0 (uR ((122, 1, 124) :: (122, 0, 123) :: r))) : zCon G (n + 1) 206 83 85 [.ref 122] (uI l) z0 (uR r) post := by
  refine zin00 hG rfl rfl rfl rfl rfl (b206_0 ?_)
  refine And.intro ⟨by decide, by decide⟩ ?_
  refine And.intro ⟨by decide, by decide⟩ ?_
  show post none _ _ _
  refine u_post (post := post) (I' := uI (l)) (L' := z0) (R' := uR ((122, 1, 124) :: (122, 0, 123) :: r)) ?_ ?_ ?_ h
  · rw [uI_new, uI_new]
    all_goals first | rfl | exact uNo_of (l := l) h1 rfl | exact uNo_of (l := r) h2 rfl
  · rw [z0_new, z0_new]
  · rw [uR_new, uR_put, uR_new, uR_put]
    all_goals first | rfl | exact uNo_of (l := l) h1 rfl | exact uNo_of (l := r) h2 rfl
theorem i206_125 (hG : G.2.2.2.2.2 = true) (h1 : uOk 125 l = true) (h2 : uOk 125 r = true) (h : post none (uI (l)) z0 (uR ((125, 1, 127) :: (125, 0, 126) :: r))) : zCon G (n + 1) 206 86 88 [.ref 125] (uI l) z0 (uR r) post := by
  refine zin00 hG rfl rfl rfl rfl rfl (b206_0 ?_)
  refine And.intro ⟨by decide, by decide⟩ ?_
  refine And.intro ⟨by decide, by decide⟩ ?_
  show post none _ _ _
  refine u_post (post := post) (I' := uI (l)) (L' := z0) (R' := uR ((125, 1, 127) :: (125, 0, 126) :: r)) ?_ ?_ ?_ h
  · rw [uI_new, uI_new]
    all_goals first | rfl | exact uNo_of (l := l) h1 rfl | exact uNo_of (l := r) h2 rfl
  · rw [z0_new, z0_new]
  · rw [uR_new, uR_put, uR_new, uR_put]
    all_goals first | rfl | exact uNo_of (l := l) h1 rfl | exact uNo_of (l := r) h2 rfl
theorem i206_128 (hG : G.2.2.2.2.2 = true) (h1 : uOk 128 l = true) (h2 : uOk 128 r = true) (h : post none (uI (l)) z0 (uR ((128, 1, 130) :: (128, 0, 129) :: r))) : zCon G (n + 1) 206 89 91 [.ref 128] (uI l) z0 (uR r) post := by
  refine zin00 hG rfl rfl rfl rfl rfl (b206_0 ?_)
  refine And.intro ⟨by decide, by decide⟩ ?_
  refine And.intro ⟨by decide, by decide⟩ ?_
  show post none _ _ _
  refine u_post (post := post) (I' := uI (l)) (L' := z0) (R' := uR ((128, 1, 130) :: (128, 0, 129) :: r)) ?_ ?_ ?_ h
  · rw [uI_new, uI_new]
    all_goals first | rfl | exact uNo_of (l := l) h1 rfl | exact uNo_of (l := r) h2 rfl
  · rw [z0_new, z0_new]
  · rw [uR_new, uR_put, uR_new, uR_put]
    all_goals first | rfl | exact uNo_of (l := l) h1 rfl | exact uNo_of (l := r) h2 rfl
theorem i157_131 (hG : G.2.2.2.2.2 = true) (h1 : uOk 131 l = true) (h2 : uOk 131 r = true) (h : post none (uI (l)) z0 (uR ((131, 3, 135) :: (131, 2, 134) :: (131, 1, 133) :: (131, 0, 132) :: r))) : zCon G (n + 1) 157 92 96 [.ref 131] (uI l) z0 (uR r) post := by
  refine zin00 hG rfl rfl rfl rfl rfl (b157_0 ?_)
  refine And.intro ⟨by decide, by decide⟩ ?_
  refine And.intro ⟨by decide, by decide⟩ ?_
  refine And.intro ⟨by decide, by decide⟩ ?_
  refine And.intro ⟨by decide, by decide⟩ ?_
  show post none _ _ _
  refine u_post (post := post) (I' := uI (l)) (L' := z0) (R' := uR ((131, 3, 135) :: (131, 2, 134) :: (131, 1, 133) :: (131, 0, 132) :: r)) ?_ ?_ ?_ h
  · rw [uI_new, uI_new, uI_new, uI_new]
    all_goals first | rfl | exact uNo_of (l := l) h1 rfl | exact uNo_of (l := r) h2 rfl
  · rw [z0_new, z0_new, z0_new, z0_new]
  · rw [uR_new, uR_put, uR_new, uR_put, uR_new, uR_put, uR_new, uR_put]
    all_goals first | rfl | exact uNo_of (l := l) h1 rfl | exact uNo_of (l := r) h2 rfl
theorem i157_136 (hG : G.2.2.2.2.2 = true) (h1 : uOk 136 l = true) (h2 : uOk 136 r = true) (h : post none (uI (l)) z0 (uR ((136, 3, 140) :: (136, 2, 139) :: (136, 1, 138) :: (136, 0, 137) :: r))) : zCon G (n + 1) 157 97 101 [.ref 136] (uI l) z0 (uR r) post := by
  refine zin00 hG rfl rfl rfl rfl rfl (b157_0 ?_)
  refine And.intro ⟨by decide, by decide⟩ ?_
  refine And.intro ⟨by decide, by decide⟩ ?_
  refine And.intro ⟨by decide, by decide⟩ ?_
  refine And.intro ⟨by decide, by decide⟩ ?_
  show post none _ _ _
  refine u_post (post := post) (I' := uI (l)) (L' := z0) (R' := uR ((136, 3, 140) :: (136, 2, 139) :: (136, 1, 138) :: (136, 0, 137) :: r)) ?_ ?_ ?_ h
  · rw [uI_new, uI_new, uI_new, uI_new]
    all_goals first | rfl | exact uNo_of (l := l) h1 rfl | exact uNo_of (l := r) h2 rfl
  · rw [z0_new, z0_new, z0_new, z0_new]
  · rw [uR_new, uR_put, uR_new, uR_put, uR_new, uR_put, uR_new, uR_put]
    all_goals first | rfl | exact uNo_of (l := l) h1 rfl | exact uNo_of (l := r) h2 rfl
theorem i157_141 (hG : G.2.2.2.2.2 = true) (h1 : uOk 141 l = true) (h2 : uOk 141 r = true) (h : post none (uI (l)) z0 (uR ((141, 3, 145) :: (141, 2, 144) :: (141, 1, 143) :: (141, 0, 142) :: r))) : zCon G (n + 1) 157 102 106 [.ref 141] (uI l) z0 (uR r) post := by
  refine zin00 hG rfl rfl rfl rfl rfl (b157_0 ?_)
  refine And.intro ⟨by decide, by decide⟩ ?_
  refine And.intro ⟨by decide, by decide⟩ ?_
  refine And.intro ⟨by decide, by decide⟩ ?_
  refine And.intro ⟨by decide, by decide⟩ ?_
  show post none _ _ _
  refine u_post (post := post) (I' := uI (l)) (L' := z0) (R' := uR ((141, 3, 145) :: (141, 2, 144) :: (141, 1, 143) :: (141, 0, 142) :: r)) ?_ ?_ ?_ h
  · rw [uI_new, uI_new, uI_new, uI_new]
    all_goals first | rfl | exact uNo_of (l := l) h1 rfl | exact uNo_of (l := r) h2 rfl
  · rw [z0_new, z0_new, z0_new, z0_new]
  · rw [uR_new, uR_put, uR_new, uR_put, uR_new, uR_put, uR_new, uR_put]
    all_goals first | rfl | exact uNo_of (l := l) h1 rfl | exact uNo_of (l := r) h2 rfl
theorem i157_146 (hG : G.2.2.2.2.2 = true) (h1 : uOk 146 l = true) (h2 : uOk 146 r = true) (h : post none (uI (l)) z0 (uR ((146, 3, 150) :: (146, 2, 149) :: (146, 1, 148) :: (146, 0, 147) :: r))) : zCon G (n + 1) 157 107 111 [.ref 146] (uI l) z0 (uR r) post := by
  refine zin00 hG rfl rfl rfl rfl rfl (b157_0 ?_)
  refine And.intro ⟨by decide, by decide⟩ ?_
  refine And.intro ⟨by decide, by decide⟩ ?_
  refine And.intro ⟨by decide, by decide⟩ ?_
  refine And.intro ⟨by decide, by decide⟩ ?_
  show post none _ _ _
  refine u_post (post := post) (I' := uI (l)) (L' := z0) (R' := uR ((146, 3, 150) :: (146, 2, 149) :: (146, 1, 148) :: (146, 0, 147) :: r)) ?_ ?_ ?_ h
  · rw [uI_new, uI_new, uI_new, uI_new]
    all_goals first | rfl | exact uNo_of (l := l) h1 rfl | exact uNo_of (l := r) h2 rfl
  · rw [z0_new, z0_new, z0_new, z0_new]
  · rw [uR_new, uR_put, uR_new, uR_put, uR_new, uR_put, uR_new, uR_put]
    all_goals first | rfl | exact uNo_of (l := l) h1 rfl | exact uNo_of (l := r) h2 rfl
theorem i157_151 (hG : G.2.2.2.2.2 = true) (h1 : uOk 151 l = true) (h2 : uOk 151 r = true) (h : post none (uI (l)) z0 (uR ((151, 3, 155) :: (151, 2, 154) :: (151, 1, 153) :: (151, 0, 152) :: r))) : zCon G (n + 1) 157 112 116 [.ref 151] (uI l) z0 (uR r) post := by
  refine zin00 hG rfl rfl rfl rfl rfl (b157_0 ?_)
  refine And.intro ⟨by decide, by decide⟩ ?_
  refine And.intro ⟨by decide, by decide⟩ ?_
  refine And.intro ⟨by decide, by decide⟩ ?_
  refine And.intro ⟨by decide, by decide⟩ ?_
  show post none _ _ _
  refine u_post (post := post) (I' := uI (l)) (L' := z0) (R' := uR ((151, 3, 155) :: (151, 2, 154) :: (151, 1, 153) :: (151, 0, 152) :: r)) ?_ ?_ ?_ h
  · rw [uI_new, uI_new, uI_new, uI_new]
    all_goals first | rfl | exact uNo_of (l := l) h1 rfl | exact uNo_of (l := r) h2 rfl
  · rw [z0_new, z0_new, z0_new, z0_new]
  · rw [uR_new, uR_put, uR_new, uR_put, uR_new, uR_put, uR_new, uR_put]
    all_goals first | rfl | exact uNo_of (l := l) h1 rfl | exact uNo_of (l := r) h2 rfl
theorem i157_156 (hG : G.2.2.2.2.2 = true) (h1 : uOk 156 l = true) (h2 : uOk 156 r = true) (h : post none (uI (l)) z0 (uR ((156, 3, 160) :: (156, 2, 159) :: (156, 1, 158) :: (156, 0, 157) :: r))) : zCon G (n + 1) 157 117 121 [.ref 156] (uI l) z0 (uR r) post := by
  refine zin00 hG rfl rfl rfl rfl rfl (b157_0 ?_)
  refine And.intro ⟨by decide, by decide⟩ ?_
  refine And.intro ⟨by decide, by decide⟩ ?_
  refine And.intro ⟨by decide, by decide⟩ ?_
  refine And.intro ⟨by decide, by decide⟩ ?_
  show post none _ _ _
  refine u_post (post := post) (I' := uI (l)) (L' := z0) (R' := uR ((156, 3, 160) :: (156, 2, 159) :: (156, 1, 158) :: (156, 0, 157) :: r)) ?_ ?_ ?_ h
  · rw [uI_new, uI_new, uI_new, uI_new]
    all_goals first | rfl | exact uNo_of (l := l) h1 rfl | exact uNo_of (l := r) h2 rfl
  · rw [z0_new, z0_new, z0_new, z0_new]
  · rw [uR_new, uR_put, uR_new, uR_put, uR_new, uR_put, uR_new, uR_put]
    all_goals first | rfl | exact uNo_of (l := l) h1 rfl | exact uNo_of (l := r) h2 rfl
theorem i157_161 (hG : G.2.2.2.2.2 = true) (h1 : uOk 161 l = true) (h2 : uOk 161 r = true) (h : post none (uI (l)) z0 (uR ((161, 3, 165) :: (161, 2, 164) :: (161, 1, 163) :: (161, 0, 162) :: r))) : zCon G (n + 1) 157 122 126 [.ref 161] (uI l) z0 (uR r) post := by
  refine zin00 hG rfl rfl rfl rfl rfl (b157_0 ?_)
  refine And.intro ⟨by decide, by decide⟩ ?_
  refine And.intro ⟨by decide, by decide⟩ ?_
  refine And.intro ⟨by decide, by decide⟩ ?_
  refine And.intro ⟨by decide, by decide⟩ ?_
  show post none _ _ _
  refine u_post (post := post) (I' := uI (l)) (L' := z0) (R' := uR ((161, 3, 165) :: (161, 2, 164) :: (161, 1, 163) :: (161, 0, 162) :: r)) ?_ ?_ ?_ h
  · rw [uI_new, uI_new, uI_new, uI_new]
    all_goals first | rfl | exact uNo_of (l := l) h1 rfl | exact uNo_of (l := r) h2 rfl
  · rw [z0_new, z0_new, z0_new, z0_new]
  · rw [uR_new, uR_put, uR_new, uR_put, uR_new, uR_put, uR_new, uR_put]
    all_goals first | rfl | exact uNo_of (l := l) h1 rfl | exact uNo_of (l := r) h2 rfl
theorem i157_166 (hG : G.2.2.2.2.2 = true) (h1 : uOk 166 l = true) (h2 : uOk 166 r = true) (h : post none (uI (l)) z0 (uR ((166, 3, 170) :: (166, 2, 169) :: (166, 1, 168) :: (166, 0, 167) :: r))) : zCon G (n + 1) 157 127 131 [.ref 166] (uI l) z0 (uR r) post := by
  refine zin00 hG rfl rfl rfl rfl rfl (b157_0 ?_)
  refine And.intro ⟨by decide, by decide⟩ ?_
  refine And.intro ⟨by decide, by decide⟩ ?_
  refine And.intro ⟨by decide, by decide⟩ ?_
  refine And.intro ⟨by decide, by decide⟩ ?_
  show post none _ _ _
  refine u_post (post := post) (I' := uI (l)) (L' := z0) (R' := uR ((166, 3, 170) :: (166, 2, 169) :: (166, 1, 168) :: (166, 0, 167) :: r)) ?_ ?_ ?_ h
  · rw [uI_new, uI_new, uI_new, uI_new]
    all_goals first | rfl | exact uNo_of (l := l) h1 rfl | exact uNo_of (l := r) h2 rfl
  · rw [z0_new, z0_new, z0_new, z0_new]
  · rw [uR_new, uR_put, uR_new, uR_put, uR_new, uR_put, uR_new, uR_put]
    all_goals first | rfl | exact uNo_of (l := l) h1 rfl | exact uNo_of (l := r) h2 rfl
end
