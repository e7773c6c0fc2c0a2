/-! the reference's loops -/
theorem loop0z {St R : Type} (mk : St → Hp) (B : Nat → Hp → Int32 → Option R) (L : (Hp → Int32 → Option R) → Hp → Int32 → Option R) (hB : ∀ n, B (n + 1) = L (B n)) (N : Nat) (Inv : Nat → St → Prop) (X : St → Option R) (hx : ∀ k J, Inv N J → L k (mk J) (nI N) = X J)
    (hs : ∀ k J j, j < N → Inv j J → ∃ J', Inv (j + 1) J' ∧ L k (mk J) (nI j) = k (mk J') (nI (j + 1))) (J : St) (h0 : Inv 0 J) (n : Nat) (hn : N < n) : ∃ J', Inv N J' ∧ B n (mk J) (nI 0) = X J' :=
  loop0 mk B L hB 0 N Inv X (fun k J hi => by rw [Nat.zero_add]; exact hx k J hi) (fun k J j hj hi => by rw [Nat.zero_add]; exact hs k J j hj hi) J h0 n hn
theorem loop1z {St α R : Type} (mk : St → Hp) (B : Nat → Hp → α → Int32 → Option R) (L : (Hp → α → Int32 → Option R) → Hp → α → Int32 → Option R) (hB : ∀ n, B (n + 1) = L (B n)) (N : Nat) (f : Nat → α → α) (a0 : α) (Inv : Nat → St → Prop) (X : α → St → Option R) (hx : ∀ k J, Inv N J → L k (mk J) (fold f N a0) (nI N) = X (fold f N a0) J)
    (hs : ∀ k J j, j < N → Inv j J → ∃ J', Inv (j + 1) J' ∧ L k (mk J) (fold f j a0) (nI j) = k (mk J') (f j (fold f j a0)) (nI (j + 1))) (J : St) (h0 : Inv 0 J) (n : Nat) (hn : N < n) : ∃ J', Inv N J' ∧ B n (mk J) a0 (nI 0) = X (fold f N a0) J' :=
  loop1 mk B L hB 0 N f a0 Inv X (fun k J hi => by rw [Nat.zero_add]; exact hx k J hi) (fun k J j hj hi => by rw [Nat.zero_add]; exact hs k J j hj hi) J h0 n hn
theorem loop2z {St α β R : Type} (mk : St → Hp) (B : Nat → Hp → α → β → Int32 → Option R) (L : (Hp → α → β → Int32 → Option R) → Hp → α → β → Int32 → Option R) (hB : ∀ n, B (n + 1) = L (B n)) (N : Nat) (f : Nat → α × β → α × β) (a0 : α) (b0 : β) (Inv : Nat → St → Prop) (X : α × β → St → Option R) (hx : ∀ k J, Inv N J → L k (mk J) (fold f N (a0, b0)).1 (fold f N (a0, b0)).2 (nI N) = X (fold f N (a0, b0)) J)
    (hs : ∀ k J j, j < N → Inv j J → ∃ J', Inv (j + 1) J' ∧ L k (mk J) (fold f j (a0, b0)).1 (fold f j (a0, b0)).2 (nI j) = k (mk J') (f j (fold f j (a0, b0))).1 (f j (fold f j (a0, b0))).2 (nI (j + 1))) (J : St) (h0 : Inv 0 J) (n : Nat) (hn : N < n) : ∃ J', Inv N J' ∧ B n (mk J) a0 b0 (nI 0) = X (fold f N (a0, b0)) J' :=
  loop2 mk B L hB 0 N f a0 b0 Inv X (fun k J hi => by rw [Nat.zero_add]; exact hx k J hi) (fun k J j hj hi => by rw [Nat.zero_add]; exact hs k J j hj hi) J h0 n hn
theorem bI_ne {b : Bool} {x y : Option (Int32 × Hp)} : (if bI b = 0 then x else y) = if b = true then y else x := by cases b <;> rfl
theorem sme8 {J J' : Nat → Nat → Int32} (h : sme [18, 19] J J') {a : Nat} (ha : a < 18) : J' a = J a := h a (by simp; omega)
theorem m_beatsOf {J : Nat → Nat → Int32} {e : Ev} {p fu : Nat} (hR : RM J e) (hp : p < vP e) (hfu : 200 < fu) : ∃ J', sme [18, 19] J J' ∧ F_X8_beatsOf fu (mkM J) 0 (nI p) = some (sBeats e p, mkM J') := by
  obtain ⟨hW, hW10⟩ := RM_W hR
  have hP := (RM_P hR).2
  refine loop1z mkM (B_X8_beatsOf_4 fu 0 (nI p)) (fun k => L_X8_beatsOf_4 k fu 0 (nI p)) (fun n => rfl) (vW e) (fun k a => a + (if dd e p k then sStrokes e p k else 0)) 0 (fun _ J' => sme [18, 19] J J') (fun a J' => some (a, mkM J')) ?_ ?_ J sme_rf fu (by omega)
  · intro k J' hi
    unfold L_X8_beatsOf_4
    rw [M_gI, bind_some', sme8 hi (by decide), hW, if_pos (nI_le (Nat.le_refl _) (by omega))]
  · intro k J' j hj hi
    unfold L_X8_beatsOf_4 B_X8_beatsOf_32
    rw [M_gI, bind_some', sme8 hi (by decide), hW, if_neg (nI_ge hj (by omega)), M_ob, bind_some', m_did (by omega), b2_some, bI_ne, sme8 hi (by decide), (RM_k hR hj).1]
    by_cases hb : bt (vDo e j) (nI p) = true
    · obtain ⟨J1, hs1, e1⟩ := m_strokesOf (fu := fu) (RM_sme hR hi (by decide)) hp hj hfu
      refine ⟨J1, sme_tr hi hs1, ?_⟩
      rw [if_pos hb, M_ob, bind_some', e1, b2_some, nI_1, show dd e p j = true from hb]
      rfl
    · refine ⟨J', hi, ?_⟩
      have hb : bt (vDo e j) (nI p) = false := by simpa using hb
      rw [hb, if_neg (by decide), nI_1, show dd e p j = false from hb]
      rfl
theorem m_sawOf {J : Nat → Nat → Int32} {e : Ev} {o p fu : Nat} (hR : RM J e) (hfu : 200 < fu) : F_X8_sawOf fu (mkM J) 0 (nI o) (nI p) = some (sSaw e o p, mkM J) := by
  obtain ⟨hW, hW10⟩ := RM_W hR
  obtain ⟨J', hJ, h⟩ := loop1z mkM (B_X8_sawOf_5 fu 0 (nI o) (nI p)) (fun k => L_X8_sawOf_5 k fu 0 (nI o) (nI p)) (fun n => rfl) (vW e) (fun k n => n + (if dd e p k && ss e o k then 1 else 0)) 0 (fun _ J' => J' = J) (fun a J' => some (a, mkM J')) (by
    intro k J' hi
    subst hi
    unfold L_X8_sawOf_5
    rw [M_gI, bind_some', hW, if_pos (nI_le (Nat.le_refl _) (by omega))]) (by
    intro k J' j hj hi
    subst hi
    refine ⟨J', rfl, ?_⟩
    unfold L_X8_sawOf_5 B_X8_sawOf_39 B_X8_sawOf_40
    rw [M_gI, bind_some', hW, if_neg (nI_ge hj (by omega)), M_ob, bind_some', m_did (by omega), b2_some, bI_ne, (RM_k hR hj).1]
    show _ = k (mkM J') (_ + (if bt (vDo e j) (nI p) && bt (vSw e j) (nI o) then 1 else 0)) _
    cases hb : bt (vDo e j) (nI p) with
    | false => rw [if_neg (by decide), nI_1]; rfl
    | true =>
      rw [if_pos rfl, M_ob, bind_some', m_saw0 (by omega), b2_some, bI_ne, (RM_k hR hj).2.2]
      cases hb2 : bt (vSw e j) (nI o) with
      | false => rw [if_neg (by decide), nI_1]; rfl
      | true => rw [if_pos rfl, nI_1]; rfl) J rfl fu (by omega)
  rw [hJ] at h
  exact h
theorem last_nI {c : Nat → Bool} : ∀ n : Nat, fold (fun k l => if c k then nI k else l) n (nI 0) = nI (fold (fun k l => if c k then k else l) n 0)
  | 0 => rfl
  | n + 1 => by
    show (if c n then nI n else fold _ n _) = nI (if c n then n else fold _ n _)
    rw [last_nI n]
    by_cases h : c n = true
    · rw [if_pos h, if_pos h]
    · rw [if_neg h, if_neg h]
theorem last_lt {c : Nat → Bool} : ∀ n : Nat, fold (fun k l => if c k then k else l) n 0 ≤ n - 1
  | 0 => Nat.le_refl _
  | n + 1 => by
    show (if c n then n else fold _ n _) ≤ n
    have := last_lt (c := c) n
    by_cases h : c n = true
    · rw [if_pos h]
      omega
    · rw [if_neg h]
      omega
theorem m_lastSeen {J : Nat → Nat → Int32} {e : Ev} {o p fu : Nat} (hR : RM J e) (hfu : 200 < fu) : F_X8_lastSeen fu (mkM J) 0 (nI o) (nI p) = some (nI (sLast e o p), mkM J) := by
  obtain ⟨hW, hW10⟩ := RM_W hR
  obtain ⟨J', hJ, h⟩ := loop1z mkM (B_X8_lastSeen_5 fu 0 (nI o) (nI p)) (fun k => L_X8_lastSeen_5 k fu 0 (nI o) (nI p)) (fun n => rfl) (vW e) (fun k l => if dd e p k && ss e o k then nI k else l) (nI 0) (fun _ J' => J' = J) (fun a J' => some (a, mkM J')) (by
    intro k J' hi
    subst hi
    unfold L_X8_lastSeen_5
    rw [M_gI, bind_some', hW, if_pos (nI_le (Nat.le_refl _) (by omega))]) (by
    intro k J' j hj hi
    subst hi
    refine ⟨J', rfl, ?_⟩
    unfold L_X8_lastSeen_5 B_X8_lastSeen_39 B_X8_lastSeen_40
    rw [M_gI, bind_some', hW, if_neg (nI_ge hj (by omega)), M_ob, bind_some', m_did (by omega), b2_some, bI_ne, (RM_k hR hj).1]
    show _ = k (mkM J') (if bt (vDo e j) (nI p) && bt (vSw e j) (nI o) then nI j else _) _
    cases hb : bt (vDo e j) (nI p) with
    | false => rw [if_neg (by decide), nI_1]; rfl
    | true =>
      rw [if_pos rfl, M_ob, bind_some', m_saw0 (by omega), b2_some, bI_ne, (RM_k hR hj).2.2]
      cases hb2 : bt (vSw e j) (nI o) with
      | false => rw [if_neg (by decide), nI_1]; rfl
      | true => rw [if_pos rfl, nI_1]; rfl) J rfl fu (by omega)
  rw [hJ, last_nI] at h
  exact h
theorem eq_iff_nI {a b : Nat} {α : Type} {x y : α} (ha : a < 2 ^ 31) (hb : b < 2 ^ 31) : (if nI a = nI b then x else y) = if a = b then x else y := by
  by_cases h : a = b
  · rw [if_pos h, if_pos (by rw [h])]
  · rw [if_neg h, if_neg (fun q => h (nI_inj ha hb q))]
theorem nle_I {x y : Int32} {α : Type} {a b : α} : (if x ≤ y then a else b) = if y < x then b else a := by
  by_cases h : y < x
  · rw [if_pos h, if_neg (by rw [le_I]; rw [lt_I] at h; omega)]
  · rw [if_neg h, if_pos (by rw [le_I]; rw [lt_I] at h; omega)]
theorem m_caughtBy {J : Nat → Nat → Int32} {e : Ev} {p fu : Nat} {beats : Int32} (hR : RM J e) (hp : p < vP e) (hfu : 200 < fu) : F_X8_caughtBy fu (mkM J) 0 (nI p) beats = some (sCaught e p beats, mkM J) := by
  obtain ⟨hP, hP6⟩ := RM_P hR
  obtain ⟨J', hJ, h⟩ := loop1z mkM (B_X8_caughtBy_5 fu 0 (nI p) beats) (fun k => L_X8_caughtBy_5 k fu 0 (nI p) beats) (fun n => rfl) (vP e) (fun o s => s ||| (if o ≠ p ∧ beats < sSaw e o p then (1 : Int32) <<< (nI o &&& 31) else 0)) 0 (fun _ J' => J' = J) (fun a J' => some (a, mkM J')) (by
    intro k J' hi
    subst hi
    unfold L_X8_caughtBy_5
    rw [M_gI, bind_some', hP, if_pos (nI_le (Nat.le_refl _) (by omega))]) (by
    intro k J' j hj hi
    subst hi
    refine ⟨J', rfl, ?_⟩
    unfold L_X8_caughtBy_5 B_X8_caughtBy_39 B_X8_caughtBy_40
    rw [M_gI, bind_some', hP, if_neg (nI_ge hj (by omega)), eq_iff_nI (by omega) (by omega), nI_1]
    by_cases hjp : j = p
    · rw [if_pos hjp, if_neg (fun q => q.1 hjp)]
    · rw [if_neg hjp, M_ob, bind_some', m_sawOf hR hfu, b2_some, nle_I]
      by_cases hc : beats < sSaw e j p
      · rw [if_pos hc, if_pos ⟨hjp, hc⟩]
      · rw [if_neg hc, if_neg (fun q => hc q.2)]) J rfl fu (by omega)
  rw [hJ] at h
  exact h
theorem saw0 {e : Ev} {o p : Nat} (h : vW e = 0) : sSaw e o p = 0 := by
  unfold sSaw
  rw [h]
  rfl
theorem m_lossOf {J : Nat → Nat → Int32} {e : Ev} {p fu : Nat} {beats : Int32} (hR : RM J e) (hp : p < vP e) (hW0 : 0 < vW e ∨ 0 ≤ beats) (hfu : 200 < fu) : ∃ J', sme [18, 19] J J' ∧ F_X8_lossOf fu (mkM J) 0 (nI p) beats = some (sLoss e p beats, mkM J') := by
  obtain ⟨hP, hP6⟩ := RM_P hR
  obtain ⟨hW, hW10⟩ := RM_W hR
  refine loop1z mkM (B_X8_lossOf_5 fu 0 (nI p) beats) (fun k => L_X8_lossOf_5 k fu 0 (nI p) beats) (fun n => rfl) (vP e) (fun o s => s + (if o ≠ p ∧ 0 < sSaw e o p - beats then sDoubts e o (sLast e o p) (sSaw e o p - beats) else 0)) 0 (fun _ J' => sme [18, 19] J J') (fun a J' => some (a, mkM J')) ?_ ?_ J sme_rf fu (by omega)
  · intro k J' hi
    unfold L_X8_lossOf_5
    rw [M_gI, bind_some', sme8 hi (by decide), hP, if_pos (nI_le (Nat.le_refl _) (by omega))]
  · intro k J' j hj hi
    have hR' := RM_sme hR hi (by decide)
    unfold L_X8_lossOf_5 B_X8_lossOf_61 B_X8_lossOf_62
    rw [M_gI, bind_some', sme8 hi (by decide), hP, if_neg (nI_ge hj (by omega)), M_ob, bind_some', m_sawOf hR' hfu, b2_some, eq_iff_nI (by omega) (by omega), nle_I]
    by_cases hjp : j = p
    · exact ⟨J', hi, by rw [if_pos hjp, if_neg (fun q => q.1 hjp), nI_1]⟩
    · by_cases hc : 0 < sSaw e j p - beats
      · have hw : 0 < vW e := by
          rcases hW0 with h | h
          · exact h
          · rcases Nat.eq_zero_or_pos (vW e) with q | q
            · exfalso
              rw [saw0 q, lt_I] at hc
              rw [le_I] at h
              have e0 : (0 : Int32).toInt = 0 := rfl
              have hb := toInt_bd beats
              rw [subI (by rw [e0]; omega) (by rw [e0]; omega), e0] at hc
              rw [e0] at h
              omega
            · exact q
        have hl : sLast e j p ≤ vW e - 1 := last_lt (c := fun k => dd e p k && ss e j k) (vW e)
        obtain ⟨J1, hs1, e1⟩ := m_doubtsOf (fu := fu) (off := sSaw e j p - beats) hR' hj (k := sLast e j p) (by omega) hfu
        refine ⟨J1, sme_tr hi hs1, ?_⟩
        rw [if_neg hjp, if_pos hc, M_ob, bind_some', m_lastSeen hR' hfu, b2_some, m_within, b2_some]
        have ec : clamp (nI (sLast e j p)) 0 9 = nI (sLast e j p) := by
          unfold clamp
          rw [if_pos (nI_pos' (by omega)), if_pos (by rw [lit 9]; exact nI_le (by omega) (by omega))]
        rw [ec, M_ob, bind_some', e1, b2_some, if_pos ⟨hjp, hc⟩, nI_1]
      · exact ⟨J', hi, by rw [if_neg hjp, if_neg hc, if_neg (fun q => hc q.2), nI_1]⟩
theorem m_thoughtOf {J : Nat → Nat → Int32} {e : Ev} {p fu : Nat} {beats : Int32} (hR : RM J e) (hp : p < vP e) (hW0 : 0 < vW e ∨ 0 ≤ beats) (hfu : 200 < fu) : ∃ J', sme [18, 19] J J' ∧ F_X8_thoughtOf fu (mkM J) 0 (nI p) beats = some (sThought e p beats, mkM J') := by
  obtain ⟨hP, hP6⟩ := RM_P hR
  obtain ⟨J1, hs1, e1⟩ := m_lossOf (fu := fu) hR hp hW0 hfu
  refine ⟨J1, hs1, ?_⟩
  unfold F_X8_thoughtOf
  rw [M_r3, bind_some', lit 2, nI_mul, nI_1, M_g3 (by omega), bind_some', M_ob, bind_some', e1, b2_some, m_within, b2_some, (RM_p hR hp).2.2.2]
  rfl
theorem m_beatsAll {J : Nat → Nat → Int32} {e : Ev} {fu : Nat} (hR : RM J e) (hfu : 200 < fu) : ∃ J', sme [18, 19] J J' ∧ F_X8_beatsAll fu (mkM J) 0 = some (sAll e, mkM J') := by
  obtain ⟨hP, hP6⟩ := RM_P hR
  refine loop1z mkM (B_X8_beatsAll_4 fu 0) (fun k => L_X8_beatsAll_4 k fu 0) (fun n => rfl) (vP e) (fun p a => a + sBeats e p) 0 (fun _ J' => sme [18, 19] J J') (fun a J' => some (a, mkM J')) ?_ ?_ J sme_rf fu (by omega)
  · intro k J' hi
    unfold L_X8_beatsAll_4
    rw [M_gI, bind_some', sme8 hi (by decide), hP, if_pos (nI_le (Nat.le_refl _) (by omega))]
  · intro k J' j hj hi
    obtain ⟨J1, hs1, e1⟩ := m_beatsOf (fu := fu) (RM_sme hR hi (by decide)) hj hfu
    refine ⟨J1, sme_tr hi hs1, ?_⟩
    unfold L_X8_beatsAll_4
    rw [M_gI, bind_some', sme8 hi (by decide), hP, if_neg (nI_ge hj (by omega)), M_ob, bind_some', e1, b2_some, nI_1]
