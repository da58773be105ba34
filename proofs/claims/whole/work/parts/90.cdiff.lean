-- ===== all ways: which boxes a game may change =====
/-- two chests differ only in those boxes -/
def cDf (bs : List Nat) (c c' : sC) : Prop := ∀ b, b ∉ bs → c'.2.1 b = c.2.1 b ∧ ∀ k, k < 9 → c'.1 (9 * b + k) = c.1 (9 * b + k)
theorem cDf_0 (bs : List Nat) (c : sC) : cDf bs c c := fun _ _ => ⟨rfl, fun _ _ => rfl⟩
theorem cDf_le {bs bs' : List Nat} {c c' : sC} (h : cDf bs c c') (hs : ∀ b, b ∈ bs → b ∈ bs') : cDf bs' c c' := fun b hb => h b fun z => hb (hs b z)
theorem cDf_tr {bs : List Nat} {c c' c'' : sC} (h : cDf bs c c') (h2 : cDf bs c' c'') : cDf bs c c'' := fun b hb => ⟨((h2 b hb).1).trans (h b hb).1, fun k hk => ((h2 b hb).2 k hk).trans ((h b hb).2 k hk)⟩
/-- beads changed at one place of a box -/
theorem cDf_bd {b k : Nat} {c c' : sC} (hk : k < 9) (h : ∀ j, j ≠ 9 * b + k → c'.1 j = c.1 j) (ho : c'.2.1 = c.2.1) : cDf [b] c c' := fun b' hb => ⟨by rw [ho], fun k' hk' => h _ fun z => hb (List.mem_singleton.mpr (by omega))⟩
theorem cGive_df {b k x : Nat} {c : sC} (hk : k < 9) : cDf [b] c (cGive c (9 * b + k) x) := cDf_bd hk (fun _ hj => fup_n hj) rfl
theorem cPay_df {b k : Nat} {x : Int} {c : sC} (hk : k < 9) : cDf [b] c (cPay c (9 * b + k) x) := by
  unfold cPay
  split
  · exact cGive_df hk
  · exact cDf_bd hk (fun _ hj => fup_n hj) rfl
theorem cFill_df {g : zg} {b x : Nat} {c : sC} : ∀ m, m ≤ 9 → cDf [b] c (cFill g b x c m).1
  | 0, _ => cDf_0 _ _
  | m + 1, hm => by
    rw [cFill]
    split
    · exact cDf_tr (cFill_df m (by omega)) (cGive_df (by omega))
    · exact cFill_df m (by omega)
theorem cRefill_df {g : zg} (hg : gOk g) {b x : Nat} {c : sC} : cDf [b] c (cRefill g b x c) := by
  have mm := sMM_pos hg
  unfold cRefill
  split
  · exact cFill_df _ (by omega)
  · exact cDf_0 _ _
theorem sOpn_df {g : zg} (hg : gOk g) {fr : Nat → Nat} {b : Nat} {c : sC} : cDf [b] c (sOpn g fr c b) := by
  have mm := sMM_pos hg
  unfold sOpn
  split
  · exact cDf_0 _ _
  · refine cDf_tr (c' := cSetOp c b true) (fun b' hb => ⟨?_, fun _ _ => rfl⟩) (cFill_df (sMM g) (by omega))
    exact fup_n fun z => hb (List.mem_singleton.mpr z)
theorem sPays_df {rl : zrl} {r e : Nat} : ∀ (ds : List (Nat × Nat)) (i : Nat) (c : sC), (∀ d, d ∈ ds → d.2 < 9) → cDf (ds.map Prod.fst) c (sPays rl r e ds i c)
  | [], _, _, _ => cDf_0 _ _
  | d :: ds, i, c, h => cDf_tr (cDf_le (cPay_df (h d (List.mem_cons_self ..))) (fun b hb => by rw [List.mem_singleton.mp hb]; exact List.mem_cons_self ..)) (cDf_le (sPays_df ds (i + 1) _ (fun d' hd => h d' (List.mem_cons_of_mem _ hd))) (fun b hb => List.mem_cons_of_mem _ hb))
theorem sRefs_df {g : zg} (hg : gOk g) {x : Nat} : ∀ (ds : List (Nat × Nat)) (c : sC), cDf (ds.map Prod.fst) c (sRefs g x ds c)
  | [], _ => cDf_0 _ _
  | d :: ds, c => cDf_tr (cDf_le (cRefill_df hg) (fun b hb => by rw [List.mem_singleton.mp hb]; exact List.mem_cons_self ..)) (cDf_le (sRefs_df hg ds _) (fun b hb => List.mem_cons_of_mem _ hb))
/-- the boxes that a game met -/
def mBx (ds : List (Nat × Nat)) (em : Option Nat) : List Nat := ds.map Prod.fst ++ em.toList
theorem mBx_ds {ds : List (Nat × Nat)} {em : Option Nat} {b : Nat} (h : b ∈ ds.map Prod.fst) : b ∈ mBx ds em := List.mem_append_left _ h
theorem sPayAll_df {g : zg} (hg : gOk g) {rl : zrl} {ru : Option Nat} {e : Nat} {ds : List (Nat × Nat)} {em : Option Nat} {c : sC} (h : ∀ d, d ∈ ds → d.2 < 9) : cDf (mBx ds em) c (sPayAll g rl ru e ds em c) := by
  cases ru with
  | none => exact cDf_0 _ _
  | some r =>
    rw [sPayAll_ref]
    refine cDf_tr (cDf_le (sPays_df (rl := rl) (r := r) (e := e) ds 0 c h) (fun b hb => mBx_ds hb)) ?_
    unfold sRefAll
    cases em with
    | none => exact cDf_le (sRefs_df hg ds _) (fun b hb => mBx_ds hb)
    | some b => exact cDf_tr (cDf_le (sRefs_df hg ds _) (fun b hb => mBx_ds hb)) (cDf_le (cRefill_df hg) (fun b' hb => List.mem_append_right _ (by rw [List.mem_singleton.mp hb]; exact List.mem_cons_self ..)))
section
variable {τ : Type} {V : sC × τ → (Nat → Nat) → Nat → Prop} {pf : sC × τ → (Nat → Nat) → Nat → Nat × (sC × τ)} {g : zg} {fr : Nat → Nat} {F : zfo}
theorem cDf_R (bs : List Nat) (c : sC) (r : Int32) : cDf bs c (cSetR c r) := fun _ _ => ⟨rfl, fun _ _ => rfl⟩
theorem gRun_df (hg : gOk g) (hpf : kPf V pf) (hok : foOk F) : ∀ (n p : Nat) (s : sC × τ) (ds : List (Nat × Nat)) (ts : List Nat), sDep g p < n → pInv g p s.1 ds ts → gVR V pf g fr F n p s → (∀ d, d ∈ ds → d ∈ (gRun pf g fr F n p s ds ts).2.2.1) ∧ cDf (mBx (gRun pf g fr F n p s ds ts).2.2.1 (gRun pf g fr F n p s ds ts).2.2.2.2) s.1 (gRun pf g fr F n p s ds ts).2.1.1 := by
  intro n
  induction n with
  | zero => intro p s ds ts h; exact absurd h (Nat.not_lt_zero _)
  | succ n ih =>
    intro p s ds ts hd hi hv
    rw [gRun]
    by_cases c : sWork g p < 2
    · obtain ⟨v1, v2⟩ := hv c
      rw [if_pos c]
      by_cases c2 : sWork g p = g 8
      · rw [if_pos c2]
        by_cases c3 : sInB (sOpn g fr s.1 (sBox g p)) (sBox g p) = 0
        · rw [if_pos c3]
          exact ⟨fun _ z => z, cDf_le (sOpn_df hg) (fun b hb => List.mem_append_right _ (by rw [List.mem_singleton.mp hb]; exact List.mem_cons_self ..))⟩
        · rw [if_neg c3]
          obtain ⟨w1, w2⟩ := v1 c2 c3
          obtain ⟨a1, a2⟩ := gInv_own hg hpf (fr := fr) hi c2 c c3 w1
          have hdl := sDep_lt hg a1
          obtain ⟨q1, q2⟩ := ih _ _ _ _ (by omega) a2 w2
          have o1 := (sOpn_in hg (fr := fr) hi.2.1 hi.1 c2).1
          obtain ⟨-, -, r, er⟩ := gOw_ok hpf (t := s.2) o1 c3 w1
          refine ⟨fun d hx => q1 d (List.mem_append_left _ hx), cDf_tr (cDf_le (sOpn_df hg (fr := fr) (c := s.1) (b := sBox g p)) (fun b hb => ?_)) (cDf_tr ?_ q2)⟩
          · rw [List.mem_singleton.mp hb]
            exact mBx_ds (List.mem_map_of_mem (f := Prod.fst) (q1 _ (List.mem_append_right _ (List.mem_cons_self ..))))
          · rw [er]
            exact cDf_R _ _ _
      · rw [if_neg c2]
        obtain ⟨w1, w2⟩ := v2 c2
        obtain ⟨a1, a2⟩ := gInv_foe hg hpf hok hi c w1
        have hdl := sDep_lt hg a1
        obtain ⟨q1, q2⟩ := ih _ _ _ _ (by omega) a2 w2
        obtain ⟨-, r, er⟩ := gFo_ok hg hpf hok c w1
        refine ⟨q1, cDf_tr ?_ q2⟩
        rw [er]
        exact cDf_R _ _ _
    · rw [if_neg c]
      exact ⟨fun _ z => z, cDf_0 _ _⟩
/-- what a whole game may change -/
theorem gPaid_df (hg : gOk g) (hpf : kPf V pf) (hok : foOk F) {rl : zrl} {ru : Option Nat} {s : sC × τ} (hin : cIn g s.1) (hv : gVR V pf g fr F 21 (sFirst g) s) : cDf (mBx (gRun pf g fr F 21 (sFirst g) s [] []).2.2.1 (gRun pf g fr F 21 (sFirst g) s [] []).2.2.2.2) s.1 (gPaid g rl ru (gRun pf g fr F 21 (sFirst g) s [] [])) ∧ (∀ b, b ∈ mBx (gRun pf g fr F 21 (sFirst g) s [] []).2.2.1 (gRun pf g fr F 21 (sFirst g) s [] []).2.2.2.2 → sB g b = true) ∧ cIn g (gPaid g rl ru (gRun pf g fr F 21 (sFirst g) s [] [])) ∧ (mBx (gRun pf g fr F 21 (sFirst g) s [] []).2.2.1 (gRun pf g fr F 21 (sFirst g) s [] []).2.2.2.2).length ≤ 21 := by
  have hdf := sDep_first g hg
  obtain ⟨q1, q2⟩ := gRun_df (fr := fr) hg hpf hok 21 (sFirst g) s [] [] (by omega) (pInv_0 hg hin) hv
  obtain ⟨⟨i1, i2, i3, i4, i5⟩, e1, e2⟩ := gRun_end (fr := fr) hg hpf hok 21 (sFirst g) s [] [] (by omega) (pInv_0 hg hin) hv
  generalize gRun pf g fr F 21 (sFirst g) s [] [] = S at *
  refine ⟨cDf_tr q2 (sPayAll_df hg (fun d hd => (sHas_lt hg (i3 d hd).2).1)), fun b hb => ?_, (sPayAll_in hg i2 i3 e2).1, ?_⟩
  · rcases List.mem_append.mp hb with z | z
    · obtain ⟨d, hd, rfl⟩ := List.mem_map.mp z
      exact cIn_sB i2 (i3 d hd).1
    · cases em : S.2.2.2.2 with
      | none =>
        rw [em] at z
        cases z
      | some b' =>
        rw [em] at z
        have := List.mem_singleton.mp z
        rw [this]
        exact cIn_sB i2 (e2 b' em)
  · unfold mBx
    rw [List.length_append, List.length_map]
    cases S.2.2.2.2 with
    | none => show S.2.2.1.length + 0 ≤ 21; omega
    | some b => show S.2.2.1.length + 1 ≤ 21; omega
end
/-- boxes given back -/
theorem cDf_back (c : sC) : ∀ (bs : List Nat) (c' : sC), cDf bs c c' → cCpR c (bs.foldl (fun x b => cCpB c x b) c') = c
  | [], c', h => by
    have e1 : c'.1 = c.1 := funext fun j => by
      have q := (h (j / 9) (by intro z; cases z)).2 (j % 9) (Nat.mod_lt _ (by decide))
      rw [show 9 * (j / 9) + j % 9 = j from Nat.div_add_mod j 9] at q
      exact q
    have e2 : c'.2.1 = c.2.1 := funext fun b => (h b (by intro z; cases z)).1
    show (c'.1, c'.2.1, c.2.2) = c
    rw [e1, e2]
  | b :: bs, c', h => cDf_back c bs (cCpB c c' b) fun b' hb => by
    by_cases z : b' = b
    · subst z
      refine ⟨fup_s, fun k hk => ?_⟩
      show (if (9 * b' + k) / 9 = b' then c.1 (9 * b' + k) else c'.1 (9 * b' + k)) = _
      rw [if_pos (by omega)]
    · obtain ⟨a1, a2⟩ := h b' (fun w => (List.mem_cons.mp w).elim z hb)
      refine ⟨(fup_n z).trans a1, fun k hk => ?_⟩
      show (if (9 * b' + k) / 9 = b then c.1 (9 * b' + k) else c'.1 (9 * b' + k)) = _
      rw [if_neg (by omega)]
      exact a2 k hk
