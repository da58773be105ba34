-- ===== the class: moves that a foe may do =====
section
variable {G : zG} {n : Nat} {I : zI} {L : zL} {R : zR} {q : zq} {post : zPo} {g : zg} {F : zfo} {O A B C D : Nat}
theorem k_movesAt {p : Nat} (hO : kFb O A B C D) (hok : foOk F) (hF : kFo O A B C D F I) (hL : kLay g I) (hr : sR g p) (h : ∀ a, a < 512 → (∀ m, a.testBit m = true ↔ sWork g p < 2 ∧ sCan g p m = true ∧ ∃ k, k < F.1 ∧ (F.2.1 k = 102 ∨ m = sFMv g F k p)) → post (some (.int (nI a))) I L (zR1 q)) : zC G (n + 4) 163 [.ref O, .ref 44, .int (nI p)] I L (zR1 q) post := by
  have h14 := hok.1.2
  have h19 := sR_lt hL.1.1 hr
  have hO' := hO
  have f5 := hF.1
  have lg : ∃ l, l < 512 ∧ I 47 p = nI l ∧ ∀ m, l.testBit m = true ↔ sWork g p < 2 ∧ sCan g p m = true := by
    rcases Nat.lt_or_ge (sWork g p) 2 with hw | hw
    · refine ⟨sLg g p, sLg_lt g p, (kLay_R hL hr hw).2.1, fun m => ?_⟩
      rw [sLg_tb hL.1.1]
      exact ⟨fun z => ⟨hw, z⟩, fun z => z.2⟩
    · refine ⟨0, by omega, (kLay_over hL hr hw).1, fun m => ?_⟩
      rw [Nat.zero_testBit]
      exact ⟨(fun z => by cases z), fun z => by omega⟩
  obtain ⟨l, l5, lI, lt⟩ := lg
  rcases hO with ⟨o1, o2, o3, o4, o5⟩ | ⟨o1, o2, o3, o4, o5⟩ | ⟨o1, o2, o3, o4, o5⟩ | ⟨o1, o2, o3, o4, o5⟩ | ⟨o1, o2, o3, o4, o5⟩ | ⟨o1, o2, o3, o4, o5⟩ | ⟨o1, o2, o3, o4, o5⟩ | ⟨o1, o2, o3, o4, o5⟩ <;> (
    have key : ∀ j i a (v : Option Value), i + j = F.1 → a < 512 → (∀ m, a.testBit m = true ↔ sWork g p < 2 ∧ sCan g p m = true ∧ ∃ k, k < i ∧ (F.2.1 k = 102 ∨ m = sFMv g F k p)) → zQ G 163 (n + 3) post 5 [some (.ref O), some (.ref 44), some (.int (nI p)), some (.int (nI a)), some (.int (nI i)), v] [] I L (zR1 q) := by
      intro j
      induction j with
      | zero =>
        intro i a v hi ha hm
        rw [show i = F.1 by omega] at hm ⊢
        have go : ∀ x : Int32, x = nI F.1 → (x ≤ nI F.1 → zQ G 163 (n + 3) post 82 [some (.ref O), some (.ref 44), some (.int (nI p)), some (.int (nI a)), some (.int (nI F.1)), v] [] I L (zR1 q)) := fun x _ _ => by
          subst o1 o2 o3 o4 o5
          exact b163_82 (h a ha hm)
        have gg := go _ f5
        have gn : ¬ I O 5 ≤ nI F.1 → False := fun z => z (by rw [f5]; exact Int32.le_refl _)
        subst o1 o2 o3 o4 o5
        exact b163_5 (And.intro gg (fun z => absurd z gn))
      | succ j ih =>
        intro i a v hi ha hm
        have hiF : i < F.1 := by omega
        have nxt : ∀ (b : Nat) (v : Option Value), b < 512 → (∀ m, b.testBit m = true ↔ a.testBit m = true ∨ (sWork g p < 2 ∧ sCan g p m = true ∧ (F.2.1 i = 102 ∨ m = sFMv g F i p))) → zQ G 163 (n + 3) post 76 [some (.ref O), some (.ref 44), some (.int (nI p)), some (.int (nI b)), some (.int (nI i)), v] [] I L (zR1 q) := by
          intro b v hb hbm
          have qq := ih (i + 1) b v (by omega) hb (fun m => by
            rw [hbm m, hm m]
            constructor
            · rintro (⟨z1, z2, k, z3, z4⟩ | ⟨z1, z2, z3⟩)
              · exact ⟨z1, z2, k, by omega, z4⟩
              · exact ⟨z1, z2, i, by omega, z3⟩
            · rintro ⟨z1, z2, k, z3, z4⟩
              by_cases w : k = i
              · subst w
                exact .inr ⟨z1, z2, z4⟩
              · exact .inl ⟨z1, z2, k, by omega, z4⟩)
          rw [← nI_1] at qq
          subst o1 o2 o3 o4 o5
          exact b163_76 qq
        have bef : ∀ (x5 : Int32), (F.2.1 i ≠ 102 → (sWork g p < 2 → x5 = nI (sFMv g F i p)) ∧ (2 ≤ sWork g p → x5 = -1)) → zQ G 163 (n + 3) post 42 [some (.ref O), some (.ref 44), some (.int (nI p)), some (.int (nI a)), some (.int (nI i)), v] [.int x5] I L (zR1 q) := by
          intro x5 hx
          subst o1 o2 o3 o4 o5
          refine b163_42 (k_isFool hO' hok hF hiF (zbo_eq (fun d => b163_64 ?_) (fun d => k_legalAt h19 ?_)))
          · have d := of_decide_eq_false d
            obtain ⟨x1, x0⟩ := hx d
            rcases Nat.lt_or_ge (sWork g p) 2 with hw | hw
            · have hc := sFMv_can hL.1.1 (F := F) (k := i) hw
              have h9 := sCan_9 hL.1.1 hc
              rw [x1 hw]
              refine And.intro (fun z => absurd z (nI_pos (by omega))) (fun _ => ?_)
              have qq := nxt (a ||| 2 ^ sFMv g F i p) (some (.int (nI (sFMv g F i p)))) (Nat.or_lt_two_pow (n := 9) ha (Nat.pow_lt_pow_right (by decide) h9)) (fun m => by
                rw [Nat.testBit_or, Bool.or_eq_true, Nat.testBit_two_pow, decide_eq_true_iff]
                constructor
                · rintro (z | z)
                  · exact .inl z
                  · subst z
                    exact .inr ⟨hw, hc, .inr rfl⟩
                · rintro (z | ⟨-, -, z | z⟩)
                  · exact .inl z
                  · exact absurd z d
                  · exact .inr z.symm)
              rw [← zorN, ← zshl1 (show sFMv g F i p < 31 by omega)] at qq
              exact qq
            · rw [x0 hw]
              exact And.intro (fun _ => nxt a _ ha (fun m => ⟨.inl, fun z => z.elim id (fun w => by omega)⟩)) (fun z => absurd (by decide) z)
          · have d := of_decide_eq_true d
            rw [lI]
            have qq := nxt (a ||| l) (some (.int x5)) (Nat.or_lt_two_pow (n := 9) ha l5) (fun m => by
              rw [Nat.testBit_or, Bool.or_eq_true, lt m]
              constructor
              · rintro (z | z)
                · exact .inl z
                · exact .inr ⟨z.1, z.2, .inl d⟩
              · rintro (z | z)
                · exact .inl z
                · exact .inr ⟨z.1, z.2.1⟩)
            rw [← zorN] at qq
            exact qq
        have go : ∀ x : Int32, x = nI F.1 → (x ≤ nI i → zQ G 163 (n + 3) post 82 [some (.ref O), some (.ref 44), some (.int (nI p)), some (.int (nI a)), some (.int (nI i)), v] [] I L (zR1 q)) := fun x hx z => by
          subst hx
          exact absurd ((nI_leI (by omega) (by omega)).mp z) (by omega)
        have gg := go _ f5
        subst o1 o2 o3 o4 o5
        refine b163_5 (And.intro gg (fun _ => pk_le 14 i (fun z => absurd z (by omega)) (fun _ => k_isFool hO' hok hF hiF (zbo_eq (fun d => b163_34 ?_) (fun d => bef _ (fun z => absurd (of_decide_eq_true d) z)))) rfl rfl (by omega) (by omega)))
        exact k_moveOf hO' hok hF hiF hL hr (of_decide_eq_false d) (fun hw => bef _ (fun _ => ⟨fun _ => rfl, fun z => by omega⟩)) (fun hw => bef _ (fun _ => ⟨fun z => by omega, fun _ => rfl⟩))
    have qq := key F.1 0 0 none (Nat.zero_add _) (by omega) (fun m => by
      rw [Nat.zero_testBit]
      exact ⟨(fun z => by cases z), fun ⟨_, _, k, z, _⟩ => absurd z (Nat.not_lt_zero _)⟩)
    subst o1 o2 o3 o4 o5
    exact zin0 rfl rfl rfl (b163_0 qq))
end
