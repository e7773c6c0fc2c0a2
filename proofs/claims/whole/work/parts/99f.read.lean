/-! THE CLASS'S READER, its small methods -/
theorem R_ob {q : Xp} {I : Nat → Nat → Int32} : ob (mkX q I) 2 (some 39) = some 39 := X_ob (by decide) rfl
theorem R_gI {q : Xp} {I : Nat → Nat → Int32} {j : Nat} : gI (mkX q I) (some 39) 2 j = some (I 39 j) := X_gI (by decide) rfl
theorem R_pI {q : Xp} {I : Nat → Nat → Int32} {j : Nat} {v : Int32} : pI (mkX q I) (some 39) 2 j v = some (mkX q (up2 I 39 j v)) := X_pI (by decide) rfl
theorem R_r0 {q : Xp} {I : Nat → Nat → Int32} : gR (mkX q I) (some 39) 2 0 = some (some 34) := (X_gR (by decide) rfl).trans rfl
theorem R_r3 {q : Xp} {I : Nat → Nat → Int32} : gR (mkX q I) (some 39) 2 3 = some (some 40) := (X_gR (by decide) rfl).trans rfl
theorem R_r5 {q : Xp} {I : Nat → Nat → Int32} : gR (mkX q I) (some 39) 2 5 = some (some 41) := (X_gR (by decide) rfl).trans rfl
theorem T_r0 {q : Xp} {I : Nat → Nat → Int32} : gR (mkX q I) (some 34) 4 0 = some (some 35) := (X_gR (by decide) rfl).trans rfl
theorem T_r2 {q : Xp} {I : Nat → Nat → Int32} : gR (mkX q I) (some 34) 4 2 = some (some 36) := (X_gR (by decide) rfl).trans rfl
theorem T_r3 {q : Xp} {I : Nat → Nat → Int32} : gR (mkX q I) (some 34) 4 3 = some (some 37) := (X_gR (by decide) rfl).trans rfl
theorem T_r4 {q : Xp} {I : Nat → Nat → Int32} : gR (mkX q I) (some 34) 4 4 = some (some 38) := (X_gR (by decide) rfl).trans rfl
theorem X_aL {q : Xp} {I : Nat → Nat → Int32} {a len : Nat} (ha : a < 53) (hs : shL.getD a (0, 0) = (7, len)) : aL (mkX q I) (some a) 7 = some (nI len) := by
  unfold aL
  rw [X_ob (t := 7) (a := a) ha (by rw [hs]), bind_some']
  have e : (shX q a).2 = len := by
    unfold shX
    rw [if_pos ha, hs]
  show some (Int32.ofNat (shX q a).2) = _
  rw [e]
  rfl
theorem at_any {q : Xp} {I : Nat → Nat → Int32} {a len : Nat} {i : Int32} (ha : a < 53) (hs : shL.getD a (0, 0) = (7, len)) (h2 : len < 2 ^ 31) : ∃ y, F_X7_at (mkX q I) (some a) i = some (y, mkX q I) := by
  rcases pk_ix i h2 with h | h | ⟨j, hj, rfl⟩
  · exact ⟨0, by unfold F_X7_at B_X7_at_16 B_X7_at_17; rw [if_pos h]⟩
  · by_cases h0 : i < 0
    · exact ⟨0, by unfold F_X7_at B_X7_at_16 B_X7_at_17; rw [if_pos h0]⟩
    · exact ⟨0, by unfold F_X7_at B_X7_at_16 B_X7_at_17; rw [if_neg h0, X_aL ha hs, bind_some', if_pos h]⟩
  · exact ⟨_, X_at len ha hs hj h2⟩
theorem st_any {q : Xp} {I : Nat → Nat → Int32} {a len : Nat} {i x : Int32} (ha : a < 53) (hs : shL.getD a (0, 0) = (7, len)) (h2 : len < 2 ^ 31) : ∃ I', (∀ b, b ≠ a → I' b = I b) ∧ F_X7_store (mkX q I) (some a) i x = some (mkX q I') := by
  rcases pk_ix i h2 with h | h | ⟨j, hj, rfl⟩
  · exact ⟨I, fun _ _ => rfl, by unfold F_X7_store B_X7_store_14; rw [if_pos h]⟩
  · by_cases h0 : i < 0
    · exact ⟨I, fun _ _ => rfl, by unfold F_X7_store B_X7_store_14; rw [if_pos h0]⟩
    · exact ⟨I, fun _ _ => rfl, by unfold F_X7_store B_X7_store_14; rw [if_neg h0, X_aL ha hs, bind_some', if_pos h]⟩
  · exact ⟨_, fun b hb => funext fun c => up2_o hb, X_st len ha hs hj h2⟩
/-- the tokens as they lie -/
def TK (q : Xp) (fu : Nat) (I : Nat → Nat → Int32) (T : Tk) (N : Nat) (sn : Nat → Nat) : Prop := (∀ t, t ≤ N → I 36 t = nI (T.1 t) ∧ I 37 t = nI (sn t)) ∧ ∀ t, t ≤ N → T.1 t = 2 → ∀ I' : Nat → Nat → Int32, (∀ a, 35 ≤ a → a ≤ 38 → I' a = I a) → F_X6_numberAt fu (mkX q I') 34 (nI t) = some (nI (T.2 t), mkX q I')
def RD (I : Nat → Nat → Int32) (t : Nat) (out : List Nat) : Prop := I 39 1 = -1 ∧ I 39 2 = nI t ∧ I 39 4 = nI out.length ∧ ∀ i, i < out.length → I 40 i = tr (nI (out.getD i 0))
def CR (a : Nat) : Prop := a = 39 ∨ a = 40
theorem TK_s {q : Xp} {fu : Nat} {I I' : Nat → Nat → Int32} {T : Tk} {N : Nat} {sn : Nat → Nat} (h : TK q fu I T N sn) (hs : smx CR I I') : TK q fu I' T N sn := by
  have f : ∀ a, 35 ≤ a → a ≤ 38 → I' a = I a := fun a h1 h2 => hs a (fun q => by unfold CR at q; omega)
  refine ⟨fun t ht => ?_, fun t ht hk I2 h2 => h.2 t ht hk I2 (fun a h3 h4 => (h2 a h3 h4).trans (f a h3 h4))⟩
  rw [f 36 (by omega) (by omega), f 37 (by omega) (by omega)]
  exact h.1 t ht
/-- what all that follows rests on -/
def TOK (T : Tk) (N : Nat) : Prop := T.1 N = 0 ∧ N ≤ 160 ∧ (∀ t, T.1 t < 100) ∧ ∀ t, T.1 t = 2 → T.2 t < 10000
theorem x_isNextF {q : Xp} {I : Nat → Nat → Int32} {x : Int32} (h : I 39 1 ≠ -1) : F_X3_isNext (mkX q I) 39 x = some (0, mkX q I) := by
  unfold F_X3_isNext B_X3_isNext_30 B_X3_isNext_31
  rw [R_gI, bind_some', if_neg h]
  rfl
theorem x_isNext {q : Xp} {fu : Nat} {I : Nat → Nat → Int32} {T : Tk} {N : Nat} {sn : Nat → Nat} {t : Nat} {out : List Nat} {x : Int32} {s : Nat} (hx : x = nI s) (hs : s < 100) (hT : TOK T N) (hK : TK q fu I T N sn) (hR : RD I t out) (ht : t ≤ N) : F_X3_isNext (mkX q I) 39 x = some (bI (decide (T.1 t = s)), mkX q I) := by
  have hN := hT.2.1
  have hk := hT.2.2.1 t
  have a36 : F_X7_at (mkX q I) (some 36) (nI t) = some (I 36 t, mkX q I) := X_at 161 (by decide) rfl (by omega) (by decide)
  unfold F_X3_isNext B_X3_isNext_30 B_X3_isNext_31
  rw [R_gI, bind_some', if_pos hR.1, R_r0, bind_some', T_r2, bind_some', R_gI, bind_some', hR.2.1, a36, b2_some, (hK.1 t ht).1, hx]
  by_cases h : T.1 t = s
  · rw [if_pos (by rw [h]), decide_eq_true h]
    rfl
  · rw [if_neg (fun q => h (nI_inj (by omega) (by omega) q)), decide_eq_false h]
    rfl
theorem x_failF {q : Xp} {I : Nat → Nat → Int32} (h : I 39 1 ≠ -1) : F_X3_fail (mkX q I) 39 = some (mkX q I) := by
  unfold F_X3_fail B_X3_fail_26
  rw [R_gI, bind_some', if_neg h]
theorem x_fail {q : Xp} {fu : Nat} {I : Nat → Nat → Int32} {T : Tk} {N : Nat} {sn : Nat → Nat} {t : Nat} {out : List Nat} (hT : TOK T N) (hK : TK q fu I T N sn) (hR : RD I t out) (ht : t ≤ N) : F_X3_fail (mkX q I) 39 = some (mkX q (up2 I 39 1 (nI (sn t)))) := by
  have hN := hT.2.1
  have a37 : F_X7_at (mkX q I) (some 37) (nI t) = some (I 37 t, mkX q I) := X_at 161 (by decide) rfl (by omega) (by decide)
  unfold F_X3_fail B_X3_fail_26
  rw [R_gI, bind_some', if_pos hR.1, R_r0, bind_some', T_r3, bind_some', R_gI, bind_some', hR.2.1, a37, b2_some, (hK.1 t ht).2, R_pI, bind_some']
theorem RD_next {I : Nat → Nat → Int32} {t t2 : Nat} {out : List Nat} (h : RD I t out) : RD (up2 I 39 2 (nI t2)) t2 out := by
  refine ⟨by rw [up2_j (by decide)]; exact h.1, up2_s, by rw [up2_j (by decide)]; exact h.2.2.1, fun i hi => by rw [up2_o (by decide)]; exact h.2.2.2 i hi⟩
theorem x_expectF {q : Xp} {I : Nat → Nat → Int32} {x : Int32} (h : I 39 1 ≠ -1) : F_X3_expect (mkX q I) 39 x = some (mkX q I) := by
  unfold F_X3_expect B_X3_expect_25
  rw [R_ob, bind_some', x_isNextF h, b2_some, if_pos rfl, R_ob, bind_some', x_failF h, bind_some']
theorem x_expect {q : Xp} {fu : Nat} {I : Nat → Nat → Int32} {T : Tk} {N : Nat} {sn : Nat → Nat} {t : Nat} {out : List Nat} {x : Int32} {s : Nat} (hx : x = nI s) (hs : s < 100) (hT : TOK T N) (hK : TK q fu I T N sn) (hR : RD I t out) (ht : t ≤ N) : F_X3_expect (mkX q I) 39 x = some (mkX q (if T.1 t = s then up2 I 39 2 (nI (t + 1)) else up2 I 39 1 (nI (sn t)))) := by
  unfold F_X3_expect B_X3_expect_25
  rw [R_ob, bind_some', x_isNext hx hs hT hK hR ht, b2_some]
  by_cases h : T.1 t = s
  · rw [decide_eq_true h, if_neg bIt, R_gI, bind_some', hR.2.1, nI_1, R_pI, bind_some', if_pos h]
  · rw [decide_eq_false h, if_pos bIf, R_ob, bind_some', x_fail hT hK hR ht, bind_some', if_neg h]
theorem a40 {q : Xp} {I : Nat → Nat → Int32} : aL (mkX q I) (some 40) 7 = some (nI 160) := X_aL (by decide) rfl
theorem x_putc {q : Xp} {I : Nat → Nat → Int32} {x : Int32} : ∃ I', smx CR I I' ∧ I' 39 1 = I 39 1 ∧ F_X3_write (mkX q I) 39 x = some (mkX q I') := by
  unfold F_X3_write B_X3_write_34
  rw [R_gI, bind_some', R_r3, bind_some', a40, bind_some', bind_some', bind_some']
  by_cases h : nI 160 ≤ I 39 4
  · exact ⟨I, smx_rf, rfl, by rw [if_pos h]⟩
  · obtain ⟨I', h1, h2⟩ := st_any (q := q) (I := I) (a := 40) (len := 160) (i := I 39 4) (x := x) (by decide) rfl (by decide)
    refine ⟨up2 I' 39 4 (I' 39 4 + 1), fun a ha => ?_, ?_, by rw [if_neg h, h2, bind_some', R_gI, bind_some', R_pI, bind_some']⟩
    · unfold CR at ha
      exact (funext fun b => up2_o (by omega)).trans (h1 a (by omega))
    · rw [up2_j (by decide), h1 39 (by decide)]
theorem x_putcR {q : Xp} {I : Nat → Nat → Int32} {t c : Nat} {out : List Nat} {x : Int32} (hR : RD I t out) (hl : out.length < 160) (hx : x = tr (nI c)) : ∃ I', smx CR I I' ∧ RD I' t (out ++ [c]) ∧ F_X3_write (mkX q I) 39 x = some (mkX q I') := by
  have st : F_X7_store (mkX q I) (some 40) (nI out.length) x = some (mkX q (up2 I 40 out.length x)) := X_st 160 (by decide) rfl hl (by decide)
  unfold F_X3_write B_X3_write_34
  refine ⟨up2 (up2 I 40 out.length x) 39 4 (nI (out.length + 1)), smx_tr (smx_up (Or.inr rfl)) (smx_up (Or.inl rfl)), ⟨by rw [up2_j (by decide), up2_o (by decide)]; exact hR.1, by rw [up2_j (by decide), up2_o (by decide)]; exact hR.2.1, by rw [up2_s, List.length_append]; rfl, fun i hi => ?_⟩, ?_⟩
  · rw [up2_o (by decide), up2_row]
    rw [List.length_append] at hi
    have hi : i < out.length + 1 := hi
    by_cases h : i = out.length
    · rw [if_pos h, hx, h, List.getD_eq_getElem?_getD, List.getElem?_append_right (Nat.le_refl _), Nat.sub_self]
      rfl
    · rw [if_neg h, hR.2.2.2 i (by omega), List.getD_eq_getElem?_getD, List.getD_eq_getElem?_getD, List.getElem?_append_left (by omega)]
  · rw [R_gI, bind_some', R_r3, bind_some', a40, bind_some', bind_some', bind_some', hR.2.2.1, if_neg (nI_ge hl (by decide)), st, bind_some', R_gI, bind_some', up2_o (by decide), hR.2.2.1, nI_1, R_pI, bind_some']
/-- a method of the reader does what a pure one does -/
def XG (q : Xp) (fu : Nat) (T : Tk) (N : Nat) (sn : Nat → Nat) (F : Hp → Option Hp) (sub : Nat → List Nat → Res) : Prop := (∀ I : Nat → Nat → Int32, I 39 1 ≠ -1 → F (mkX q I) = some (mkX q I)) ∧
  ∀ (I : Nat → Nat → Int32) (t : Nat) (out : List Nat), TK q fu I T N sn → RD I t out → out.length < t → t ≤ N → ∃ I', smx CR I I' ∧ F (mkX q I) = some (mkX q I') ∧ (∀ f, sub t out = .inr f → f ≤ N ∧ I' 39 1 = nI (sn f)) ∧ ∀ t2 out2, sub t out = .inl (t2, out2) → RD I' t2 out2 ∧ t < t2 ∧ t2 ≤ N ∧ out2.length + t ≤ out.length + t2
theorem fault_ne {sn : Nat → Nat} (hsn : ∀ t, sn t ≤ 160) {f : Nat} {x : Int32} (h : x = nI (sn f)) : x ≠ -1 := by
  rw [h]
  exact nI_m1 (by have := hsn f; omega)
theorem x_plain {q : Xp} {fu : Nat} {T : Tk} {N : Nat} {sn : Nat → Nat} {rc : Hp → Nat → Int32 → Option Hp} {prc : Nat → Nat → List Nat → Res} {o : Nat} (hT : TOK T N) (hsn : ∀ t, sn t ≤ 160) (ho : o ≤ 5) (hrc : o < 5 → XG q fu T N sn (fun S => rc S 39 (nI (o + 1))) (prc (o + 1))) : XG q fu T N sn (fun S => F_X3_plainOne rc fu S 39 (nI o)) (pP T prc o) := by
  have hN := hT.2.1
  constructor
  · intro I h
    obtain ⟨y, hy⟩ := at_any (q := q) (I := I) (a := 36) (len := 161) (i := I 39 2) (by decide) rfl (by decide)
    show F_X3_plainOne rc fu (mkX q I) 39 (nI o) = _
    unfold F_X3_plainOne B_X3_plainOne_85 B_X3_plainOne_125 B_X3_plainOne_129
    rw [R_r0, bind_some', T_r2, bind_some', R_gI, bind_some', hy, b2_some, R_ob, bind_some', x_isNextF h, b2_some, if_pos rfl, R_gI, bind_some', if_neg h, R_ob, bind_some', x_isNextF h, b2_some, if_pos rfl, R_ob, bind_some', x_failF h, bind_some']
  · intro I t out hK hR hl ht
    have a36 : F_X7_at (mkX q I) (some 36) (nI t) = some (I 36 t, mkX q I) := X_at 161 (by decide) rfl (by omega) (by decide)
    have hk := hT.2.2.1 t
    have k36 := (hK.1 t ht).1
    show ∃ I', _ ∧ F_X3_plainOne rc fu (mkX q I) 39 (nI o) = _ ∧ _
    unfold F_X3_plainOne B_X3_plainOne_129 pP
    rw [R_r0, bind_some', T_r2, bind_some', R_gI, bind_some', hR.2.1, a36, b2_some, k36, R_ob, bind_some', x_isNext (x := 2) (s := 2) rfl (by decide) hT hK hR ht, b2_some]
    have fail : ∀ X : Res, X = .inr t → ∃ I', smx CR I I' ∧ B_X3_plainOne_125 rc fu 39 (mkX q I) = some (mkX q I') ∧ (∀ f, X = .inr f → f ≤ N ∧ I' 39 1 = nI (sn f)) ∧ ∀ t2 out2, X = .inl (t2, out2) → RD I' t2 out2 ∧ t < t2 ∧ t2 ≤ N ∧ out2.length + t ≤ out.length + t2 := by
      rintro X rfl
      refine ⟨up2 I 39 1 (nI (sn t)), smx_up (Or.inl rfl), ?_, fun f h => (by cases h; exact ⟨ht, up2_s⟩), fun t2 out2 h => by cases h⟩
      unfold B_X3_plainOne_125 B_X3_plainOne_129
      rw [R_ob, bind_some', x_fail hT hK hR ht, bind_some']
    by_cases k2 : T.1 t = 2
    · have hne : t ≠ N := fun e => by rw [e, hT.1] at k2; cases k2
      have hv := hT.2.2.2 t k2
      have hnum := hK.2 t ht k2 I (fun _ _ _ => rfl)
      obtain ⟨I1, s1, r1, f1⟩ := x_putcR (q := q) (c := 100000 + T.2 t) (x := nI (T.2 t)) hR (by omega) (by
        unfold tr
        rw [if_pos (by rw [lit 100000]; exact nI_le (by omega) (by omega)), lit 100000, pk_sub (by omega), Nat.add_sub_cancel_left])
      have o34 : ob (mkX q I) 4 (some 34) = some 34 := X_ob34
      refine ⟨up2 I1 39 2 (nI (t + 1)), smx_tr s1 (smx_up (Or.inl rfl)), ?_, ?_, ?_⟩
      · rw [decide_eq_true k2, if_neg bIt, R_r0, bind_some', R_gI, bind_some', hR.2.1, o34, bind_some', hnum, b2_some, R_ob, bind_some', f1, bind_some', R_gI, bind_some', r1.2.1, nI_1, R_pI, bind_some']
      · intro f h
        rw [if_pos k2] at h
        cases h
      · intro t2 out2 h
        rw [if_pos k2] at h
        cases h
        refine ⟨RD_next r1, by omega, by omega, ?_⟩
        rw [List.length_append]
        show out.length + 1 + t ≤ out.length + (t + 1)
        omega
    · rw [decide_eq_false k2, if_pos bIf, R_gI, bind_some', hR.1, if_pos rfl, if_neg k2]
      have hnm : F_X5_isName (mkX q I) (nI (T.1 t)) = some (bI (decide (16 ≤ T.1 t ∧ T.1 t ≤ 21)), mkX q I) := by
        unfold F_X5_isName B_X5_isName_16 B_X5_isName_17
        by_cases h1 : T.1 t < 16
        · rw [if_pos (by rw [lit 16]; exact nI_lt h1 (by decide)), decide_eq_false (by omega)]
          rfl
        · rw [if_neg (by rw [lit 16]; exact nI_nlt (by omega) (by omega))]
          by_cases h2 : 21 < T.1 t
          · rw [if_pos (by rw [lit 21]; exact nI_lt h2 (by omega)), decide_eq_false (by omega)]
            rfl
          · rw [if_neg (by rw [lit 21]; exact nI_nlt (by omega) (by omega)), decide_eq_true (by omega)]
            rfl
      rw [hnm, b2_some]
      by_cases k16 : 16 ≤ T.1 t ∧ T.1 t ≤ 21
      · have hne : t ≠ N := fun e => by rw [e, hT.1] at k16; omega
        obtain ⟨I1, s1, r1, f1⟩ := x_putcR (q := q) (c := T.1 t - 16) (x := -nI (T.1 t)) hR (by omega) (by
          unfold tr
          rw [if_neg (by rw [lit 100000]; exact nI_ge (by omega) (by omega)), if_pos (by rw [lit 11]; exact nI_lt (by omega) (by omega)), lit 16, nI_add, show 16 + (T.1 t - 16) = T.1 t by omega])
        refine ⟨up2 I1 39 2 (nI (t + 1)), smx_tr s1 (smx_up (Or.inl rfl)), ?_, ?_, ?_⟩
        · rw [decide_eq_true k16, if_neg bIt, R_ob, bind_some', f1, bind_some', R_gI, bind_some', r1.2.1, nI_1, R_pI, bind_some']
        · intro f h
          rw [if_pos k16] at h
          cases h
        · intro t2 out2 h
          rw [if_pos k16] at h
          cases h
          refine ⟨RD_next r1, by omega, by omega, ?_⟩
          rw [List.length_append]
          show out.length + 1 + t ≤ out.length + (t + 1)
          omega
      · rw [decide_eq_false k16, if_pos bIf, if_neg k16]
        unfold B_X3_plainOne_85 B_X3_plainOne_129
        rw [R_ob, bind_some', x_isNext (x := 40) (s := 40) rfl (by decide) hT hK hR ht, b2_some]
        by_cases k40 : T.1 t = 40
        · rw [decide_eq_true k40, if_neg bIt]
          by_cases h5 : o < 5
          · have hne : t ≠ N := fun e => by rw [e, hT.1] at k40; cases k40
            obtain ⟨g1, g2⟩ := hrc h5
            have R1 : RD (up2 I 39 2 (nI (t + 1))) (t + 1) out := RD_next hR
            have s0 : smx CR I (up2 I 39 2 (nI (t + 1))) := smx_up (Or.inl rfl)
            obtain ⟨I1, s1, f1, e1, e2⟩ := g2 _ (t + 1) out (TK_s hK s0) R1 (by omega) (by omega)
            have f1 : rc (mkX q (up2 I 39 2 (nI (t + 1)))) 39 (nI (o + 1)) = some (mkX q I1) := f1
            rw [if_neg (by rw [lit 5]; exact nI_ge h5 (by omega)), R_gI, bind_some', hR.2.1, nI_1, nI_1, R_pI, bind_some', R_ob, bind_some', f1, bind_some', R_ob, bind_some', if_pos (show T.1 t = 40 ∧ o < 5 from ⟨k40, h5⟩)]
            cases hsub : prc (o + 1) (t + 1) out with
            | inr e =>
              obtain ⟨w1, w2⟩ := e1 e hsub
              refine ⟨I1, smx_tr s0 s1, by rw [x_expectF (fault_ne hsn w2), bind_some'], fun f h => (by cases h; exact ⟨w1, w2⟩), fun t2 out2 h => by cases h⟩
            | inl r =>
              obtain ⟨t3, out3⟩ := r
              obtain ⟨w1, w2, w3, w4⟩ := e2 t3 out3 hsub
              have s01 := smx_tr s0 s1
              rw [x_expect (x := 41) (s := 41) rfl (by decide) hT (TK_s hK s01) w1 w3, bind_some']
              show ∃ I', _ ∧ _ ∧ (∀ f, (if T.1 t3 = 41 then .inl (t3 + 1, out3) else .inr t3 : Res) = .inr f → _) ∧ ∀ t2 out2, (if T.1 t3 = 41 then .inl (t3 + 1, out3) else .inr t3 : Res) = .inl (t2, out2) → _
              by_cases k41 : T.1 t3 = 41
              · have hne3 : t3 ≠ N := fun e => by rw [e, hT.1] at k41; cases k41
                rw [if_pos k41, if_pos k41]
                refine ⟨_, smx_tr s01 (smx_up (Or.inl rfl)), rfl, fun f h => (by cases h), fun t2 out2 h => ?_⟩
                cases h
                exact ⟨RD_next w1, by omega, by omega, by omega⟩
              · rw [if_neg k41, if_neg k41]
                refine ⟨_, smx_tr s01 (smx_up (Or.inl rfl)), rfl, fun f h => (by cases h; exact ⟨w3, up2_s⟩), fun t2 out2 h => by cases h⟩
          · rw [if_pos (by rw [lit 5]; exact nI_le (by omega) (by omega)), if_neg (fun h => h5 h.2)]
            exact fail _ rfl
        · rw [decide_eq_false k40, if_pos bIf, if_neg (fun h => k40 h.1)]
          exact fail _ rfl
