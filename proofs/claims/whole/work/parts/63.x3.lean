/-! THE CLASS, looking -/
theorem x_beatsOfAll {q : Xp} {I : Nat → Nat → Int32} {v : Ev} {e fu : Nat} (he : isE e) (hR : RX q I e v) (hok : okEv v) (hfu : 200 < fu) :
    ∃ I', smx (E8 e) I I' ∧ F_X0_beatsOfAll fu (mkX q I) e = some (sAll v, mkX q I') := by
  obtain ⟨hP, hP6⟩ := hR.1
  refine loop1z (mkX q) (B_X0_beatsOfAll_4 fu e) (fun k => L_X0_beatsOfAll_4 k fu e) (fun n => rfl) (vP v) (fun p a => a + sBeats v p) 0 (fun _ I' => smx (E8 e) I I') (fun a I' => some (a, mkX q I')) ?_ ?_ I smx_rf fu (by omega)
  · intro k I' hi
    unfold L_X0_beatsOfAll_4
    rw [E_gI he, bind_some', hi e (E8_lt he 0 (by decide) rfl), hP, if_pos (nI_le (Nat.le_refl _) (by omega))]
  · intro k I' j hj hi
    obtain ⟨I1, s1, e1⟩ := x_beats (fu := fu) he (RX_8 hR hi he) hok hj hfu
    refine ⟨I1, smx_tr hi s1, ?_⟩
    unfold L_X0_beatsOfAll_4
    rw [E_gI he, bind_some', hi e (E8_lt he 0 (by decide) rfl), hP, if_neg (nI_ge hj (by omega)), E_ob he, bind_some', e1, b2_some, nI_1]
def lkf (v : Ev) (p o : Nat) (k : Nat) (ab : Int32 × Int32) : Int32 × Int32 := if o ≠ p ∧ (dd v p k && ss v o k) = true then (ab.1 + 1, nI k) else ab
theorem lkf_same {v : Ev} {p : Nat} {x : Int32 × Int32} : ∀ n, fold (lkf v p p) n x = x
  | 0 => rfl
  | n + 1 => by
    show lkf v p p n (fold (lkf v p p) n x) = x
    rw [lkf_same n]
    exact if_neg (fun h => h.1 rfl)
theorem lkf_else {v : Ev} {p o : Nat} (h : o ≠ p) : ∀ n, n < 2 ^ 30 → (∃ c, c ≤ n ∧ (fold (lkf v p o) n (0, -1)).1 = nI c ∧ fold (fun k n => n + (if dd v p k && ss v o k then 1 else 0)) n (0 : Int32) = nI c) ∧ ((fold (lkf v p o) n (0, -1)).1 ≠ 0 → (fold (lkf v p o) n (0, -1)).2 = nI (fold (fun k l => if dd v p k && ss v o k then k else l) n 0))
  | 0, _ => ⟨⟨0, Nat.le_refl _, rfl, rfl⟩, fun q => absurd rfl q⟩
  | n + 1, hn => by
    obtain ⟨⟨c, h1, h2, h3⟩, h4⟩ := lkf_else h n (by omega)
    show (∃ c, c ≤ n + 1 ∧ (lkf v p o n (fold (lkf v p o) n (0, -1))).1 = nI c ∧ (fold _ n (0 : Int32)) + (if dd v p n && ss v o n then 1 else 0) = nI c) ∧ ((lkf v p o n (fold (lkf v p o) n (0, -1))).1 ≠ 0 → (lkf v p o n (fold (lkf v p o) n (0, -1))).2 = nI (if dd v p n && ss v o n then n else fold _ n 0))
    unfold lkf
    rw [h3]
    by_cases hb : (dd v p n && ss v o n) = true
    · rw [if_pos ⟨h, hb⟩, if_pos hb, if_pos hb]
      refine ⟨⟨c + 1, by omega, ?_, nI_1 _⟩, fun _ => rfl⟩
      show (fold (lkf v p o) n (0, -1)).1 + 1 = _
      rw [h2, nI_1]
    · rw [if_neg (fun q => hb q.2), if_neg hb, if_neg hb]
      refine ⟨⟨c, by omega, h2, ?_⟩, h4⟩
      rw [lit 0, nI_add]
      rfl
theorem sSaw_n {v : Ev} {o p : Nat} (h : vW v ≤ 10) : ∃ c, c ≤ vW v ∧ sSaw v o p = nI c := by
  have : ∀ n, ∃ c, c ≤ n ∧ fold (fun k n => n + (if dd v p k && ss v o k then 1 else 0)) n (0 : Int32) = nI c := by
    intro n
    induction n with
    | zero => exact ⟨0, Nat.le_refl _, rfl⟩
    | succ n ih =>
      obtain ⟨c, h1, h2⟩ := ih
      show ∃ c, c ≤ n + 1 ∧ (fold _ n (0 : Int32)) + (if dd v p n && ss v o n then 1 else 0) = nI c
      rw [h2]
      by_cases hb : (dd v p n && ss v o n) = true
      · rw [if_pos hb]
        exact ⟨c + 1, by omega, nI_1 _⟩
      · rw [if_neg hb, lit 0, nI_add]
        exact ⟨c, by omega, rfl⟩
  exact this _
/-- what looking at p leaves of o -/
def sL (v : Ev) (p o : Nat) : Int32 := if o = p then 0 else sSaw v o p
def dL' (v : Ev) (p o : Nat) : Int32 := if sL v p o = 0 then 0 else sSays v 1 o (sLast v o p)
def LK (I : Nat → Nat → Int32) (e : Nat) (v : Ev) (p : Nat) : Prop := ∀ o, o < vP v → I (e + 9) o = sL v p o ∧ I (e + 10) o = dL' v p o
theorem EL_lt {e a : Nat} (he : isE e) (i : Nat) (h : i < 8) (ha : a = e + i) : ¬ EL e a := fun q => by
  have := E_lt he
  rcases q with ⟨q1, q2⟩ | q | q | q
  · rcases he with rfl | rfl | rfl <;> omega
  · omega
  · omega
  · omega
theorem EL_8 {e : Nat} {I I' : Nat → Nat → Int32} (h : smx (E8 e) I I') : smx (EL e) I I' := smx_wk h (fun a ha => by
  rcases ha with h | h
  · exact Or.inl h
  · exact Or.inr (Or.inl h))
theorem E8_9 {e : Nat} {I I' : Nat → Nat → Int32} (he : isE e) (h : smx (E8 e) I I') : I' (e + 9) = I (e + 9) ∧ I' (e + 10) = I (e + 10) := by
  constructor
  · refine h _ (fun q => ?_)
    rcases q with ⟨q1, q2⟩ | q
    · rcases he with rfl | rfl | rfl <;> omega
    · omega
  · refine h _ (fun q => ?_)
    rcases q with ⟨q1, q2⟩ | q
    · rcases he with rfl | rfl | rfl <;> omega
    · omega
theorem LK_8 {e : Nat} {I I' : Nat → Nat → Int32} {v : Ev} {p : Nat} (he : isE e) (h : smx (E8 e) I I') (hl : LK I e v p) : LK I' e v p := by
  intro o ho
  rw [(E8_9 he h).1, (E8_9 he h).2]
  exact hl o ho
theorem x_look {q : Xp} {I : Nat → Nat → Int32} {v : Ev} {e fu p : Nat} (he : isE e) (hR : RX q I e v) (hok : okEv v) (hp : p < vP v) (hfu : 200 < fu) :
    ∃ I', (smx (EL e) I I' ∧ LK I' e v p) ∧ F_X0_look fu (mkX q I) e (nI p) = some (mkX q I') := by
  obtain ⟨hP, hP6⟩ := hR.1
  obtain ⟨hW, hW10⟩ := hR.2.1
  obtain ⟨I', ⟨hi, hl⟩, h⟩ := loop0z (mkX q) (B_X0_look_2 fu e (nI p)) (fun k => L_X0_look_2 k fu e (nI p)) (fun n => rfl) (vP v) (fun j I' => smx (EL e) I I' ∧ ∀ o, o < j → I' (e + 9) o = sL v p o ∧ I' (e + 10) o = dL' v p o) (fun I' => some (mkX q I')) (by
    intro k I' hi
    unfold L_X0_look_2
    rw [E_gI he, bind_some', hi.1 e (EL_lt he 0 (by decide) rfl), hP, if_pos (nI_le (Nat.le_refl _) (by omega))]) (by
    intro k I' o ho hi
    obtain ⟨hi, hlk⟩ := hi
    have hR' := RX_L hR hi he
    have inner : B_X0_look_18 k fu e (nI p) (nI o) fu (mkX q I') (0 : Int32) (-1 : Int32) (nI 0) = L_X0_look_18 k (fun _ _ _ _ => none) fu e (nI p) (nI o) (mkX q I') (fold (lkf v p o) (vW v) (0, -1)).1 (fold (lkf v p o) (vW v) (0, -1)).2 (nI (vW v)) := by
      obtain ⟨J', hJ, h⟩ := loop2z (mkX q) (B_X0_look_18 k fu e (nI p) (nI o)) (fun k18 => L_X0_look_18 k k18 fu e (nI p) (nI o)) (fun n => rfl) (vW v) (lkf v p o) 0 (-1) (fun _ J' => J' = I') (fun ab J' => L_X0_look_18 k (fun _ _ _ _ => none) fu e (nI p) (nI o) (mkX q J') ab.1 ab.2 (nI (vW v))) (by
        intro k' J hJ
        subst hJ
        unfold L_X0_look_18
        rw [E_gI he, bind_some', bind_some', hR'.2.1.1, if_pos (nI_le (Nat.le_refl _) (by omega)), if_pos (nI_le (Nat.le_refl _) (by omega))]) (by
        intro k' J j hj hJ
        subst hJ
        refine ⟨J, rfl, ?_⟩
        obtain ⟨d1, d2, d3⟩ := hR'.2.2.2.2.1 j hj
        generalize fold (lkf v p o) j (0, -1) = ab
        unfold L_X0_look_18 B_X0_look_71 lkf
        rw [E_gI he, bind_some', hR'.2.1.1, if_neg (nI_ge hj (by omega)), eq_iff_nI (by omega) (by omega), nI_1]
        by_cases hop : o = p
        · rw [if_pos hop, if_neg (fun q => q.1 hop)]
        · rw [if_neg hop, E_r6 he, bind_some', E_a5 he (by omega), b2_some, x_hasBit, b2_some, d1]
          cases hb : bt (vDo v j) (nI p) with
          | false =>
            have hd : dd v p j = false := hb
            rw [if_pos (show bI false = 0 from rfl), if_neg (by rw [hd]; simp)]
          | true =>
            have hd : dd v p j = true := hb
            rw [if_neg (by decide), E_r8 he, bind_some', E_a7 he (by omega), b2_some, x_hasBit, b2_some, d3]
            cases hb2 : bt (vSw v j) (nI o) with
            | false =>
              have hs : ss v o j = false := hb2
              rw [if_pos (show bI false = 0 from rfl), if_neg (by rw [hs]; simp)]
            | true =>
              have hs : ss v o j = true := hb2
              rw [if_neg (by decide), if_pos ⟨hop, by rw [hd, hs]; rfl⟩]) I' rfl fu (by omega)
      rw [hJ] at h
      exact h
    have e9 : (fold (lkf v p o) (vW v) (0, -1)).1 = sL v p o := by
      unfold sL
      by_cases hop : o = p
      · rw [if_pos hop, hop, lkf_same]
      · rw [if_neg hop]
        obtain ⟨⟨c, -, h2, h3⟩, -⟩ := lkf_else (v := v) hop (vW v) (by omega)
        rw [h2]
        exact h3.symm
    have e10 : sL v p o ≠ 0 → (fold (lkf v p o) (vW v) (0, -1)).2 = nI (sLast v o p) := by
      intro hne
      have hop : o ≠ p := fun h => hne (by unfold sL; rw [if_pos h])
      obtain ⟨-, h4⟩ := lkf_else (v := v) hop (vW v) (by omega)
      exact h4 (by rw [e9]; exact hne)
    have h9 : ∀ {J : Nat → Nat → Int32} {x y : Int32} {i : Nat}, J = up2 I' (e + 9) o x → True := fun _ => trivial
    unfold L_X0_look_2
    rw [E_gI he, bind_some', hR'.1.1, if_neg (nI_ge ho (by omega)), lit 0]
    show ∃ J', _ ∧ B_X0_look_18 k fu e (nI p) (nI o) fu (mkX q I') (0 : Int32) (-1 : Int32) (nI 0) = _
    rw [inner, e9]
    unfold L_X0_look_18 B_X0_look_107
    rw [E_gI he, bind_some', hR'.2.1.1, if_pos (nI_le (Nat.le_refl _) (by omega)), E_r13 he, bind_some', E_s9 he (by omega), bind_some', E_r14 he, bind_some']
    have s9 : smx (EL e) I (up2 I' (e + 9) o (sL v p o)) := smx_tr hi (smx_up (Or.inr (Or.inr (Or.inl rfl))))
    by_cases hz : sL v p o = 0
    · rw [if_pos hz, E_s10 he (by omega), bind_some', nI_1]
      refine ⟨_, ⟨smx_tr s9 (smx_up (Or.inr (Or.inr (Or.inr rfl)))), ?_⟩, rfl⟩
      intro o' ho'
      by_cases h : o' = o
      · subst h
        rw [up2_o (by omega), up2_s, up2_s]
        exact ⟨rfl, by unfold dL'; rw [if_pos hz]⟩
      · rw [up2_o (by omega), up2_j h, up2_j h, up2_o (by omega)]
        exact hlk o' (by omega)
    · have hlast : sLast v o p < vW v := by
        have h1 := last_lt (c := fun k => dd v p k && ss v o k) (vW v)
        have hw : 0 < vW v := by
          rcases Nat.eq_zero_or_pos (vW v) with h0 | h0
          · refine absurd ?_ hz
            unfold sL
            rw [saw0 h0]
            split <;> rfl
          · exact h0
        have : sLast v o p ≤ vW v - 1 := h1
        omega
      obtain ⟨J2, s2, e2⟩ := x_says (part := 1) (fu := fu) he (RX_L hR s9 he) hok (by decide) ho hlast hfu
      rw [if_neg hz, E_ob he, bind_some', e10 hz, lit 1, e2, b2_some, E_s10 he (by omega), bind_some', nI_add]
      refine ⟨_, ⟨smx_tr (smx_tr s9 (EL_8 s2)) (smx_up (Or.inr (Or.inr (Or.inr rfl)))), ?_⟩, rfl⟩
      intro o' ho'
      by_cases h : o' = o
      · subst h
        rw [up2_o (by omega), up2_s, (E8_9 he s2).1, up2_s]
        exact ⟨rfl, by unfold dL'; rw [if_neg hz]⟩
      · rw [up2_o (by omega), up2_j h, (E8_9 he s2).1, (E8_9 he s2).2, up2_j h, up2_o (by omega)]
        exact hlk o' (by omega)) I ⟨smx_rf, fun o ho => by omega⟩ fu (by omega)
  exact ⟨I', ⟨hi, hl⟩, h⟩
