-- ===== all ways, one after another: the odometer =====
abbrev zwr : Type := (sC × Nat) × List Nat × List (Option Nat)
abbrev zyt : Type := (List Nat → zwr) × (List Nat → List (Nat × Nat)) × (List Nat → Prop)
/-- the next way's plan -/
def yTurn : List Nat → List (Option Nat) → Option (List Nat)
  | k :: cs, f :: fs => match yTurn cs fs with
    | some π => some (k :: π)
    | none => match f with
      | none => none
      | some k' => some [k']
  | [], _ => none
  | _ :: _, [] => none
def yLf (r : zwr) : Nat × Nat := (r.1.2, 10000 - r.1.1.2.2.1 - r.1.1.2.2.2.1)
def yAft (t : zyt) (r : zwr) : List (Nat × Nat) := match yTurn r.2.1 r.2.2 with
  | none => []
  | some π => t.2.1 π
def yOk (all : List (Nat × Nat)) (t : zyt) : Prop := t.2.2 [] ∧ t.2.1 [] = all ∧ ∀ π, t.2.2 π → t.2.1 π = yLf (t.1 π) :: yAft t (t.1 π) ∧ (t.1 π).2.2.length = (t.1 π).2.1.length ∧ ∀ π', yTurn (t.1 π).2.1 (t.1 π).2.2 = some π' → t.2.2 π' ∧ π'.length ≤ (t.1 π).2.1.length
def yCt (f : Nat → List (Nat × Nat)) : Nat → Nat → List (Nat × Nat)
  | 0, _ => []
  | j + 1, i => f i ++ yCt f j (i + 1)
theorem yCt_snoc (f : Nat → List (Nat × Nat)) : ∀ j i, yCt f (j + 1) i = yCt f j i ++ f (i + j)
  | 0, i => by
    show f i ++ [] = [] ++ f (i + 0)
    rw [List.append_nil, List.nil_append, Nat.add_zero]
  | j + 1, i => by
    show f i ++ yCt f (j + 1) (i + 1) = (f i ++ yCt f j (i + 1)) ++ f (i + (j + 1))
    rw [yCt_snoc f j (i + 1), List.append_assoc, show i + 1 + j = i + (j + 1) by omega]
theorem sCat_ct (f : Nat → List (Nat × Nat)) : ∀ n, sCat f n = yCt f n 0
  | 0 => rfl
  | n + 1 => by rw [sCat, yCt_snoc, sCat_ct f n, Nat.zero_add]
theorem sCat_ext {α : Type} {f f' : Nat → List α} : ∀ n, (∀ k, k < n → f k = f' k) → sCat f n = sCat f' n
  | 0, _ => rfl
  | n + 1, h => by rw [sCat, sCat, sCat_ext n (fun k hk => h k (by omega)), h n (Nat.lt_succ_self n)]
theorem sCat_more {α : Type} {f : Nat → List α} {n : Nat} : ∀ j, (∀ k, n ≤ k → f k = []) → sCat f (n + j) = sCat f n
  | 0, _ => rfl
  | j + 1, h => by
    show sCat f (n + j) ++ f (n + j) = _
    rw [sCat_more j h, h _ (by omega), List.append_nil]
/-- what comes from one number on, by those that have weight -/
def yFw (w : Nat → Nat) (al : Nat → List (Nat × Nat)) (k : Nat) : List (Nat × Nat) := if w k = 0 then [] else al k
theorem yCt_bh (w : Nat → Nat) (al : Nat → List (Nat × Nat)) : ∀ j i, yCt (yFw w al) j i = match yBh w j i with
    | none => []
    | some k => al k ++ yCt (yFw w al) (i + j - (k + 1)) (k + 1)
  | 0, _ => rfl
  | j + 1, i => by
    rw [yBh, yCt]
    by_cases c : 0 < w i
    · rw [if_pos c]
      show yFw w al i ++ _ = al i ++ _
      rw [show i + (j + 1) - (i + 1) = j by omega]
      unfold yFw
      rw [if_neg (by omega)]
    · rw [if_neg c, yCt_bh w al j (i + 1), show i + 1 + j = i + (j + 1) by omega]
      have e : yFw w al i = [] := if_pos (by omega)
      rw [e, List.nil_append]
def yHd (w : Nat → Nat) (many : Nat) : List Nat → Nat
  | [] => (yBh w many 0).getD 0
  | k :: _ => k
/-- a node where one is picked -/
def yCh (w : Nat → Nat) (many : Nat) (T : Nat → zyt) (al : Nat → List (Nat × Nat)) : zyt := (fun π => (((T (yHd w many π)).1 π.tail).1, yHd w many π :: ((T (yHd w many π)).1 π.tail).2.1, yNx w many (yHd w many π) :: ((T (yHd w many π)).1 π.tail).2.2), fun π => (T (yHd w many π)).2.1 π.tail ++ yCt (yFw w al) (many - (yHd w many π + 1)) (yHd w many π + 1), fun π => (yHd w many π < many ∧ 0 < w (yHd w many π)) ∧ (T (yHd w many π)).2.2 π.tail)
theorem yHd_0 {w : Nat → Nat} {many : Nat} (h0 : 0 < sSum w many) : yBh w many 0 = some (yHd w many []) ∧ yHd w many [] < many ∧ 0 < w (yHd w many []) := by
  obtain ⟨k, a, b⟩ := sSum_ex many h0
  obtain ⟨m, hm⟩ := yBh_ex (w := w) many 0 k (Nat.zero_le _) (by omega) b
  obtain ⟨x, y, z⟩ := yBh_some _ _ _ hm
  have e : yHd w many [] = m := by
    show (yBh w many 0).getD 0 = m
    rw [hm]
    rfl
  rw [e]
  exact ⟨hm, by omega, z⟩
theorem yCh_ok {w : Nat → Nat} {many : Nat} {T : Nat → zyt} {al : Nat → List (Nat × Nat)} (h0 : 0 < sSum w many) (hT : ∀ k, k < many → 0 < w k → yOk (al k) (T k)) : yOk (sCat (yFw w al) many) (yCh w many T al) := by
  obtain ⟨e0, l0, p0⟩ := yHd_0 h0
  refine ⟨⟨⟨l0, p0⟩, (hT _ l0 p0).1⟩, ?_, fun π hπ => ?_⟩
  · show (T (yHd w many [])).2.1 [] ++ yCt (yFw w al) (many - (yHd w many [] + 1)) (yHd w many [] + 1) = _
    rw [(hT _ l0 p0).2.1, sCat_ct, yCt_bh w al many 0, e0, Nat.zero_add]
  · obtain ⟨⟨l1, p1⟩, v1⟩ := hπ
    have hk := hT _ l1 p1
    generalize hkk : yHd w many π = k at *
    obtain ⟨h1, h2, h3⟩ := hk.2.2 _ v1
    have rn : (yCh w many T al).1 π = (((T k).1 π.tail).1, k :: ((T k).1 π.tail).2.1, yNx w many k :: ((T k).1 π.tail).2.2) := by
      show (((T (yHd w many π)).1 π.tail).1, yHd w many π :: ((T (yHd w many π)).1 π.tail).2.1, yNx w many (yHd w many π) :: ((T (yHd w many π)).1 π.tail).2.2) = _
      rw [hkk]
    have rs : (yCh w many T al).2.1 π = (T k).2.1 π.tail ++ yCt (yFw w al) (many - (k + 1)) (k + 1) := by
      show (T (yHd w many π)).2.1 π.tail ++ yCt (yFw w al) (many - (yHd w many π + 1)) (yHd w many π + 1) = _
      rw [hkk]
    rw [rn, rs, h1]
    generalize (T k).1 π.tail = r at *
    obtain ⟨r1, cs, fs⟩ := r
    have h2 : fs.length = cs.length := h2
    have h3 : ∀ π', yTurn cs fs = some π' → (T k).2.2 π' ∧ π'.length ≤ cs.length := h3
    show (yLf (r1, cs, fs) :: yAft (T k) (r1, cs, fs)) ++ _ = yLf (r1, cs, fs) :: yAft (yCh w many T al) (r1, k :: cs, yNx w many k :: fs) ∧ (yNx w many k :: fs).length = (k :: cs).length ∧ ∀ π', yTurn (k :: cs) (yNx w many k :: fs) = some π' → (yCh w many T al).2.2 π' ∧ π'.length ≤ (k :: cs).length
    have eT : yTurn (k :: cs) (yNx w many k :: fs) = match yTurn cs fs with
        | some π => some (k :: π)
        | none => match yNx w many k with
          | none => none
          | some k' => some [k'] := rfl
    have eb := yCt_bh w al (many - (k + 1)) (k + 1)
    have eN : yBh w (many - (k + 1)) (k + 1) = yNx w many k := rfl
    rw [eN] at eb
    have eA : yAft (yCh w many T al) (r1, k :: cs, yNx w many k :: fs) = match yTurn (k :: cs) (yNx w many k :: fs) with
        | none => []
        | some π => (yCh w many T al).2.1 π := rfl
    have eB : yAft (T k) (r1, cs, fs) = match yTurn cs fs with
        | none => []
        | some π => (T k).2.1 π := rfl
    rw [eA, eB, eT]
    refine ⟨?_, by show fs.length + 1 = cs.length + 1; rw [h2], ?_⟩
    · rw [List.cons_append]
      congr 1
      cases e : yTurn cs fs with
      | some π2 => rfl
      | none =>
        cases e2 : yNx w many k with
        | none =>
          rw [e2] at eb
          exact eb
        | some k' =>
          rw [e2] at eb
          obtain ⟨b1, b2, b3⟩ := yBh_some _ _ _ e2
          have hk' : k' < many := by omega
          rw [eb]
          show al k' ++ yCt (yFw w al) (k + 1 + (many - (k + 1)) - (k' + 1)) (k' + 1) = (T k').2.1 [] ++ yCt (yFw w al) (many - (k' + 1)) (k' + 1)
          rw [(hT k' hk' b3).2.1, show k + 1 + (many - (k + 1)) = many by omega]
    · intro π' hp
      cases e : yTurn cs fs with
      | some π2 =>
        rw [e] at hp
        injection hp with hp
        subst hp
        obtain ⟨a, b⟩ := h3 π2 e
        exact ⟨⟨⟨l1, p1⟩, a⟩, Nat.succ_le_succ b⟩
      | none =>
        rw [e] at hp
        cases e2 : yNx w many k with
        | none =>
          rw [e2] at hp
          cases hp
        | some k' =>
          rw [e2] at hp
          injection hp with hp
          subst hp
          obtain ⟨b1, b2, b3⟩ := yBh_some _ _ _ e2
          have hk' : k' < many := by omega
          exact ⟨⟨⟨hk', b3⟩, (hT k' hk' b3).1⟩, Nat.succ_le_succ (Nat.zero_le _)⟩
/-- running as a tree says -/
def yRn (t : zyt) (R : sC × zyw → sC × zyw) (VV : sC × zyw → Prop) (b : Nat) (c : sC) (ch : Nat) : Prop := ∀ π, t.2.2 π → ∀ ks cs fs, ks.drop cs.length = π → fs.length = cs.length → cs.length + b ≤ 128 → R (c, (ks, cs, fs, ch)) = ((t.1 π).1.1, (ks, cs ++ (t.1 π).2.1, fs ++ (t.1 π).2.2, (t.1 π).1.2)) ∧ VV (c, (ks, cs, fs, ch)) ∧ (t.1 π).2.1.length ≤ b
theorem yRn_le {t : zyt} {R : sC × zyw → sC × zyw} {VV : sC × zyw → Prop} {b b' : Nat} {c : sC} {ch : Nat} (h : yRn t R VV b c ch) (hb : b ≤ b') : yRn t R VV b' c ch := fun π v ks cs fs h1 h2 h3 => by
  obtain ⟨a, x, y⟩ := h π v ks cs fs h1 h2 (by omega)
  exact ⟨a, x, by omega⟩
theorem yRn_fn {t : zyt} {R R2 : sC × zyw → sC × zyw} {VV V2 : sC × zyw → Prop} {b : Nat} {c : sC} {ch : Nat} (h : yRn t R VV b c ch) (e : ∀ y, R2 (c, y) = R (c, y)) (v : ∀ y, VV (c, y) → V2 (c, y)) : yRn t R2 V2 b c ch := fun π vv ks cs fs h1 h2 h3 => by
  obtain ⟨a, x, y⟩ := h π vv ks cs fs h1 h2 h3
  exact ⟨(e _).trans a, v _ x, y⟩
theorem yCh_rn {w : Nat → Nat} {many b ch : Nat} {c : sC} {T : Nat → zyt} {al : Nat → List (Nat × Nat)} {R : sC × zyw → sC × zyw} {VV : sC × zyw → Prop} {R' : Nat × (sC × zyw) → sC × zyw} {VV' : Nat × (sC × zyw) → Prop} (hch : ch ≤ 1000000000) (hT : ∀ k, k < many → 0 < w k → yRn (T k) (fun s => R' (k, s)) (fun s => VV' (k, s)) b c (ch * w k / sSum w many)) (hR : ∀ y, R (c, y) = R' (pfW (c, y) w many)) (hV : ∀ y, vW (c, y) w many → VV' (pfW (c, y) w many) → VV (c, y)) : yRn (yCh w many T al) R VV (b + 1) c ch := by
  intro π hπ ks cs fs hd hl hb
  obtain ⟨⟨l1, p1⟩, v1⟩ := hπ
  have eh : ks[cs.length]? = π.head? := by rw [← hd, List.head?_drop]
  have et : ks.drop (cs.length + 1) = π.tail := by rw [← hd, List.tail_drop]
  have hk : yFi ks cs w many = yHd w many π := by
    unfold yFi
    rw [eh]
    cases π <;> rfl
  have rn : (yCh w many T al).1 π = (((T (yHd w many π)).1 π.tail).1, yHd w many π :: ((T (yHd w many π)).1 π.tail).2.1, yNx w many (yHd w many π) :: ((T (yHd w many π)).1 π.tail).2.2) := rfl
  generalize hkk : yHd w many π = k at *
  have ep : pfW (c, (ks, cs, fs, ch)) w many = (k, (c, (ks, cs ++ [k], fs ++ [yNx w many k], ch * w k / sSum w many))) := by
    unfold pfW
    dsimp only
    rw [hk]
  obtain ⟨a1, a2, a3⟩ := hT k l1 p1 _ v1 ks (cs ++ [k]) (fs ++ [yNx w many k]) (by rw [snoc_len]; exact et) (by rw [snoc_len, snoc_len, hl]) (by rw [snoc_len]; omega)
  refine ⟨?_, hV _ ⟨by show cs.length < 128; omega, hl, fun k' hk' => ?_, hch⟩ (by rw [ep]; exact a2), ?_⟩
  · rw [hR, ep, rn]
    have a1 : R' (k, c, ks, cs ++ [k], fs ++ [yNx w many k], ch * w k / sSum w many) = _ := a1
    rw [a1, List.append_assoc, List.append_assoc]
    rfl
  · have hk' : ks[cs.length]? = some k' := hk'
    rw [eh] at hk'
    cases π with
    | nil => cases hk'
    | cons x π2 =>
      injection hk' with hk'
      subst hk'
      have hkk : x = k := hkk
      subst hkk
      exact ⟨l1, p1⟩
  · rw [rn]
    show ((T k).1 π.tail).2.1.length + 1 ≤ b + 1
    omega
theorem yLeaf_ok (c : sC) (ch : Nat) : yOk [(ch, 10000 - c.2.2.1 - c.2.2.2.1)] (fun _ => ((c, ch), [], []), fun _ => [(ch, 10000 - c.2.2.1 - c.2.2.2.1)], fun _ => True) := ⟨trivial, rfl, fun _ _ => ⟨rfl, rfl, fun _ h => by cases h⟩⟩
theorem yLeaf_rn (c : sC) (ch : Nat) {R : sC × zyw → sC × zyw} {VV : sC × zyw → Prop} {al : List (Nat × Nat)} (hR : ∀ s, R s = s) (hV : ∀ s, VV s) : yRn (fun _ => ((c, ch), [], []), fun _ => al, fun _ => True) R VV 0 c ch := fun _ _ ks cs fs _ _ _ => ⟨by rw [hR]; show _ = (c, (ks, cs ++ [], fs ++ [], ch)); rw [List.append_nil, List.append_nil], hV _, Nat.le_refl _⟩
