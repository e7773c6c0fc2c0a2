/-! told evenings: what agrees -/
theorem fou_m1 {c : Nat → Bool} : ∀ d i, i + d < 2 ^ 30 → (fou c d i = -1 ↔ ∀ k, i ≤ k → k < i + d → c k = false)
  | 0, i, _ => ⟨fun _ k h1 h2 => by omega, fun _ => rfl⟩
  | d + 1, i, h => by
    show (if c i then nI i else fou c d (i + 1)) = -1 ↔ _
    by_cases hc : c i = true
    · rw [if_pos hc]
      constructor
      · intro q
        exact absurd q (nI_m1 (by omega))
      · intro q
        have := q i (Nat.le_refl _) (by omega)
        rw [hc] at this
        cases this
    · rw [if_neg hc, fou_m1 d (i + 1) (by omega)]
      have hc : c i = false := by simpa using hc
      constructor
      · intro q k h1 h2
        by_cases hk : k = i
        · rw [hk]; exact hc
        · exact q k (by omega) (by omega)
      · intro q k h1 h2
        exact q k (by omega) (by omega)
theorem oth_f {v : Ev} {cell : Nat → Int32} {z i : Nat} {x : Int32} : oth v cell z x i = false ↔ (nI i = x ∨ z ≤ i ∨ cell i = sBeats v i) := by
  unfold oth
  rw [Bool.and_eq_false_iff, Bool.and_eq_false_iff, decide_eq_false_iff_not, decide_eq_false_iff_not, decide_eq_false_iff_not, Decidable.not_not, Decidable.not_not, Nat.not_lt]
def agB (v : Ev) (cell : Nat → Int32) (z : Nat) : Bool := decide (fou (oth v cell z (-1)) z 0 = -1)
theorem agB_iff {v : Ev} {cell : Nat → Int32} {z : Nat} (hz : z ≤ 40) : agB v cell z = true ↔ ∀ i, i < z → cell i = sBeats v i := by
  unfold agB
  rw [decide_eq_true_iff, fou_m1 _ _ (by omega)]
  constructor
  · intro q i hi
    rcases oth_f.mp (q i (Nat.zero_le _) (by omega)) with h | h | h
    · exact absurd h (nI_m1 (by omega))
    · omega
    · exact h
  · intro q k _ hk
    exact oth_f.mpr (Or.inr (Or.inr (q k (by omega))))
theorem fouA_iff {v : Ev} {cell : Nat → Int32} {z P p : Nat} (hz : z ≤ P) (hP : P ≤ 6) (hp : p < P) : fou (oth v cell z (nI p)) P 0 = -1 ↔ ∀ i, i < z → i ≠ p → cell i = sBeats v i := by
  rw [fou_m1 _ _ (by omega)]
  constructor
  · intro q i hi hip
    rcases oth_f.mp (q i (Nat.zero_le _) (by omega)) with h | h | h
    · exact absurd (nI_inj (by omega) (by omega) h) hip
    · omega
    · exact h
  · intro q k _ hk
    by_cases hkp : k = p
    · exact oth_f.mpr (Or.inl (by rw [hkp]))
    · by_cases hkz : k < z
      · exact oth_f.mpr (Or.inr (Or.inr (q k hkz hkp)))
      · exact oth_f.mpr (Or.inr (Or.inl (by omega)))
theorem ag_split {v v' : Ev} {cell : Nat → Int32} {z P p : Nat} (hz : z ≤ P) (hP : P ≤ 6) (hp : p < P) (hb : ∀ i, i ≠ p → sBeats v' i = sBeats v i) : agB v' cell z = (decide (fou (oth v cell z (nI p)) P 0 = -1) && !(decide (p < z) && decide (cell p ≠ sBeats v' p))) := by
  rw [Bool.eq_iff_iff, agB_iff (by omega), Bool.and_eq_true, decide_eq_true_iff, fouA_iff hz hP hp, Bool.not_eq_true', Bool.and_eq_false_iff, decide_eq_false_iff_not, decide_eq_false_iff_not, Decidable.not_not]
  constructor
  · intro q
    refine ⟨fun i hi hip => by rw [q i hi, hb i hip], ?_⟩
    by_cases hpz : p < z
    · exact Or.inr (q p hpz)
    · exact Or.inl hpz
  · rintro ⟨q1, q2⟩ i hi
    by_cases hip : i = p
    · subst hip
      exact q2.resolve_left (fun h => h hi)
    · rw [hb i hip]
      exact q1 i hi hip
theorem sBeats_o {v v' : Ev} {i : Nat} (hW : vW v' = vW v) (hday : vDay v' = vDay v) (hk : vKind v' i = vKind v i) (hm : vMore v' i = vMore v i) (hr : vPride v' i = vPride v i) (hd : vDo v' = vDo v) (hw : vWt v' = vWt v) (hs : vSw v' = vSw v) (hc : vCode v' = vCode v) (hb : vBnd v' = vBnd v) : sBeats v' i = sBeats v i := by
  have hf : ∀ k, facts v' i k = facts v i k := fun k => by
    funext j
    unfold facts
    rw [hw, hd, hs, hday, hr, hm]
  have hy : ∀ k, sSays v' 0 i k = sSays v 0 i k := fun k => by
    unfold sSays raw
    rw [hf, hc, hb]
  unfold sBeats
  rw [hW]
  refine fold_congr _ _ (fun k _ a => ?_)
  have ht : sStrokes v' i k = sStrokes v i k := by
    unfold sStrokes
    rw [hy, hk, hm, hw, hd]
  have hdd : dd v' i k = dd v i k := by
    unfold dd
    rw [hd]
  rw [ht, hdd]
theorem judge_eq {v : Ev} {cx cm : Nat → Int32} {z : Nat} (hzP : z ≤ vP v) (hc : ∀ i, i < z → cx i = cm i) : fou (oth v cx z (-1)) (vP v) 0 = fou (oth v cm z (-1)) z 0 := by
  have e1 : oth v cx z (-1) = oth v cm z (-1) := by
    funext i
    unfold oth
    by_cases hi : i < z
    · rw [hc i hi]
    · rw [decide_eq_false hi, Bool.false_and, Bool.false_and]
  rw [e1]
  have := fou_cut (c := oth v cm z (-1)) (z := z) (fun k hk => by
    unfold oth
    rw [decide_eq_false (show ¬ k < z by omega), Bool.false_and, Bool.and_false]) z 0 (vP v - z) (by omega)
  rw [show z + (vP v - z) = vP v by omega] at this
  exact this
theorem x_refusal3 {q : Xp} {I J : Nat → Nat → Int32} {v : Ev} {s : Nat} {a2 a3 : Int32} (h : Rv q I J v) (hs : s < 4) : F_X7_refusalToJudge_ (mkX q I) 0 (some (45 + 2 * s)) a2 a3 = some (if refu J (vP v) s = 0 then (if inb a2 (vP v) = true then (if inb a3 2 = true then 0 else -7) else -5) else refu J (vP v) s, mkX q I) := by
  unfold F_X7_refusalToJudge_ B_X7_refusalToJudge__42
  rw [X_o0, bind_some', x_refusal h hs, b2_some]
  by_cases hr : refu J (vP v) s = 0
  · rw [if_pos hr, if_pos hr, X_r0, bind_some', E_ob eE1, bind_some', x_hasPerson eE1 h.1, b2_some, x_zo, b2_some]
    cases hb : inb a2 (vP v) with
    | false => rw [if_pos bIf, if_neg (by decide)]
    | true =>
      rw [if_neg bIt, if_pos rfl]
      cases hb3 : inb a3 2 with
      | false => rw [if_pos bIf, if_neg (by decide)]
      | true => rw [if_neg bIt, if_pos rfl]
  · rw [if_neg hr, if_neg hr]
theorem x_refusal3N {q : Xp} {I : Nat → Nat → Int32} {a2 a3 : Int32} : F_X7_refusalToJudge_ (mkX q I) 0 none a2 a3 = some (-2, mkX q I) := by
  unfold F_X7_refusalToJudge_ F_X7_refusalToJudge
  rw [X_o0, bind_some', if_pos rfl, b2_some, if_neg (by decide)]
theorem Rv_mw2 {q q1 : Xp} {I I' J J' : Nat → Nat → Int32} {v : Ev} (h : Rv q I J v) (hq : q1.1 = q.1 ∧ q1.2.1 = q.2.1 ∧ q1.2.2.1 = q.2.2.1 ∧ q1.2.2.2.2 = q.2.2.2.2) (hs : smx EC I I') (hm : sm0 J J') : Rv q1 I' J' v := by
  obtain ⟨q1', q2', q3', q4'⟩ := hq
  have h0 := Rv_mono h hs hm
  obtain ⟨r, c1, c2, c3, c4⟩ := h0.2.2.2.2.1
  refine Rv_ev h0 h0.1 h0.2.1 h0.2.2.1 h0.2.2.2.1 ⟨q1', q2', q4'⟩ ⟨r, c1, c2, ?_, ?_⟩ (fun a ha => rfl) (fun a h1 h2 => rfl) rfl rfl rfl (fun w hw => hw)
  · rw [q3']; exact c3
  · unfold LT at c4 ⊢
    rw [q1', q2']
    exact c4
