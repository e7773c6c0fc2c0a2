/-! THE REFERENCE'S TEXT -/
def MR (r : Nat) (J : Nat → Nat → Int32) (out : List Nat) : Prop := (J 0 13 = nI r ∧ r < 6) ∧ J 0 30 = nI out.length ∧ ∀ i, i < out.length → J 8 (200 * r + i) = nI (out.getD i 0)
theorem BM_f {ex : List Nat} {r : Nat} {J J' : Nat → Nat → Int32} {b : Nat → Nat} {n : Nat} (h : BM J b n) (hs : FR ex r J J') (he : 10 ∉ ex) : BM J' b n := by
  unfold BM
  rw [hs.1 7 (by decide) (by decide) (by decide), hs.2.1 10 he]
  exact h
theorem WM_f {ex : List Nat} {r : Nat} {J J' : Nat → Nat → Int32} (h : WM J) (hs : FR ex r J J') : WM J' := by
  unfold WM
  rw [hs.1 16 (by decide) (by decide) (by decide)]
  exact h
theorem m_eRead {J : Nat → Nat → Int32} {b : Nat → Nat} {n N r t fu : Nat} {out : List Nat} (hB : BM J b n) (hW : WM J) (hN : N ≤ n) (hNn : sN b n N = n) (hR : MR r J out) (h22 : J 0 22 = nI (pN b n t)) (ht : t ≤ N) (hl : out.length ≤ t) (hfu : 2000 < fu) : eGd r N (sN b n) (pN b n) J (pE (tkN b n) t out) (F_X8_eRead fu (mkM J) 0) := by
  have hn := hB.1
  have hT : TOK (tkN b n) N := tkN_T (by omega) hNn
  have F1 : FR exb r J (up2 (up2 J 0 28 0) 0 29 0) := FR_tr (FR_0 (by decide)) (FR_0 (by decide))
  have hRR : RR r (up2 (up2 J 0 28 0) 0 29 0) [] out := by
    refine ⟨⟨by rw [up2_j (by decide), up2_j (by decide)]; exact hR.1.1, hR.1.2⟩, by rw [up2_j (by decide), up2_s]; rfl, up2_s, ⟨trivial, fun x hx => by cases hx⟩, by rw [up2_j (by decide), up2_j (by decide)]; exact hR.2.1, fun i hi => ?_⟩
    rw [up2_o (by decide), up2_o (by decide)]
    exact hR.2.2 i hi
  obtain ⟨e1, -, -⟩ := pE_R (T := tkN b n) (M := N + 1) (out := out) hT.1 hT.2.1 (by omega) ht
  have g := m_eL hT (fun t => tkN_ok) (m_NX (N := N) (fu := fu) hB hW (by omega)) hfu (N + 1 - t) t true true [] out (up2 (up2 J 0 28 0) 0 29 0) fu (by omega) ht (by omega) F1 hRR (by rw [up2_j (by decide), up2_j (by decide)]; exact h22) (by show 0 + out.length ≤ t; omega) (by decide)
  rw [← e1]
  unfold F_X8_eRead
  rw [M_pI, bind_some', M_pI, bind_some']
  exact g
abbrev ext : List Nat := [22, 23, 24, 25, 28, 29, 30]
def FT9 (r : Nat) (J J' : Nat → Nat → Int32) : Prop := (∀ a, a ≠ 0 → a ≠ 8 → a ≠ 9 → a ≠ 17 → J' a = J a) ∧ (∀ j, j ∉ ext → J' 0 j = J 0 j) ∧ ∀ i, i < 200 * r → J' 8 i = J 8 i
theorem FT9_tr {r : Nat} {J J' J'' : Nat → Nat → Int32} (h : FT9 r J J') (g : FT9 r J' J'') : FT9 r J J'' := ⟨fun a h1 h2 h3 h4 => (g.1 a h1 h2 h3 h4).trans (h.1 a h1 h2 h3 h4), fun j hj => (g.2.1 j hj).trans (h.2.1 j hj), fun i hi => (g.2.2 i hi).trans (h.2.2 i hi)⟩
theorem FT9_f {r : Nat} {J J' : Nat → Nat → Int32} (h : FR ext r J J') : FT9 r J J' := ⟨fun a h1 h2 _ h4 => h.1 a h1 h2 h4, h.2.1, h.2.2⟩
theorem FT9_n {r : Nat} {J J' : Nat → Nat → Int32} (h : FN [22, 23, 24, 25] J J') : FT9 r J J' := ⟨fun a h1 _ _ _ => h.1 a h1, fun j hj => h.2 j (fun q => hj (by simp at q ⊢; omega)), fun i _ => by rw [h.1 8 (by decide)]⟩
theorem FT9_9 {r i : Nat} {v : Int32} {J : Nat → Nat → Int32} : FT9 r J (up2 J 9 i v) := ⟨fun a _ _ h _ => funext fun b => up2_o h, fun j _ => up2_o (by decide), fun i _ => up2_o (by decide)⟩
theorem BM_9 {r : Nat} {J J' : Nat → Nat → Int32} {b : Nat → Nat} {n : Nat} (h : BM J b n) (hs : FT9 r J J') : BM J' b n := by
  unfold BM
  rw [hs.1 7 (by decide) (by decide) (by decide) (by decide), hs.2.1 10 (by decide)]
  exact h
theorem WM_9 {r : Nat} {J J' : Nat → Nat → Int32} (h : WM J) (hs : FT9 r J J') : WM J' := by
  unfold WM
  rw [hs.1 16 (by decide) (by decide) (by decide) (by decide)]
  exact h
def R9 (r part : Nat) (v : Int32) (J J' : Nat → Nat → Int32) : Prop := ∀ i, J' 9 i = if i = 4 * r + part then v else J 9 i
theorem tx_key {b : Nat → Nat} {n t part : Nat} (hp : part < 3) : (tkN b n).1 t = 10 + part ↔ (rtk ((tkN b n).1 t) = 3 ∧ rvl (tkN b n) t = nI part) := by
  obtain ⟨h1, h2⟩ := tkN_ok (b := b) (n := n) (t := t)
  have h3 := (rt_all _ h1 h2).2.2.2.2.2.2.2.1
  constructor
  · intro e
    unfold rvl
    rw [e]
    rcases (show part = 0 ∨ part = 1 ∨ part = 2 by omega) with rfl | rfl | rfl <;> exact ⟨rfl, rfl⟩
  · rintro ⟨e1, e2⟩
    have h4 := h3 e1
    unfold rvl at e2
    rw [if_neg (by omega), if_pos (by omega)] at e2
    have := nI_inj (by omega) (by omega) e2
    omega
theorem vl_k : ∀ k, k < 62 → kd k = true → rtk k = 3 → vlK k = true := by decide +kernel
theorem m_part {J : Nat → Nat → Int32} {b : Nat → Nat} {n N r t part m fu : Nat} {out : List Nat} (hB : BM J b n) (hW : WM J) (hN : N ≤ n) (hNn : sN b n N = n) (hR : MR r J out) (h22 : J 0 22 = nI (pN b n t)) (ht : t ≤ N) (hl : out.length ≤ t) (hp : part < 3) (hfu : 2000 < fu) : ∃ J', FT9 r J J' ∧ R9 r part (nI out.length) J J' ∧ (∀ e, pC (tkN b n) part t out = .inr e → J' 0 23 = nI (sN b n e) ∧ B_X8_text_26 fu 0 (m + 1) (mkM J) 1 (nI part) = B_X8_text_26 fu 0 m (mkM J') 0 (nI (part + 1))) ∧ ∀ t2 out2, pC (tkN b n) part t out = .inl (t2, out2) → t2 ≤ N ∧ out2.length ≤ t2 ∧ J' 0 22 = nI (pN b n t2) ∧ MR r J' out2 ∧ B_X8_text_26 fu 0 (m + 1) (mkM J) 1 (nI part) = B_X8_text_26 fu 0 m (mkM J') 1 (nI (part + 1)) := by
  have hn := hB.1
  have hT : TOK (tkN b n) N := tkN_T (by omega) hNn
  obtain ⟨J1, f1, f22, f23, f24, f25, fN⟩ := m_next (fu := fu) hB hW h22 (by omega)
  obtain ⟨h62, hkd⟩ := tkN_ok (b := b) (n := n) (t := t)
  have s1 : FT9 r J (up2 J1 9 (4 * r + part) (nI out.length)) := FT9_tr (FT9_n f1) FT9_9
  have r1 : R9 r part (nI out.length) J (up2 J1 9 (4 * r + part) (nI out.length)) := fun i => by rw [up2_row, f1.1 9 (by decide)]
  have q13 : J1 0 13 = nI r := by rw [f1.2 13 (by decide)]; exact hR.1.1
  have q30 : J1 0 30 = nI out.length := by rw [f1.2 30 (by decide)]; exact hR.2.1
  have hr := hR.1.2
  have M1 : MR r (up2 J1 9 (4 * r + part) (nI out.length)) out := ⟨⟨by rw [up2_o (by decide)]; exact q13, hr⟩, by rw [up2_o (by decide)]; exact q30, fun i hi => by rw [up2_o (by decide), f1.1 8 (by decide)]; exact hR.2.2 i hi⟩
  have B60 : ∀ s0 : Int32, B_X8_text_60 (B_X8_text_26 fu 0 m) fu 0 (mkM J1) (nI part) s0 = (if s0 = 0 then B_X8_text_26 fu 0 m (mkM (up2 J1 9 (4 * r + part) (nI out.length))) 0 (nI (part + 1)) else b2 (F_X8_eRead fu (mkM (up2 J1 9 (4 * r + part) (nI out.length))) 0) fun v83 S83 => if v83 = 0 then B_X8_text_26 fu 0 m S83 0 (nI (part + 1)) else B_X8_text_26 fu 0 m S83 1 (nI (part + 1))) := by
    intro s0
    unfold B_X8_text_60 B_X8_text_93 B_X8_text_94
    rw [M_r12, bind_some', M_gI, bind_some', M_gI, bind_some', q13, q30, lit 4, nI_mul, nI_add, M_p9 (by omega), bind_some', M_ob, bind_some', nI_1]
  have hL : B_X8_text_26 fu 0 (m + 1) (mkM J) 1 (nI part) = (if (tkN b n).1 t = 10 + part then B_X8_text_60 (B_X8_text_26 fu 0 m) fu 0 (mkM J1) (nI part) 1 else B_X8_text_60 (B_X8_text_26 fu 0 m) fu 0 (mkM J1) (nI part) 0) := by
    show L_X8_text_26 _ _ _ _ _ _ = _
    unfold L_X8_text_26 B_X8_text_59
    rw [if_neg (show ¬ (3 : Int32) ≤ nI part by rw [lit 3]; exact nI_ge hp (by decide)), if_neg (show ¬ (1 : Int32) = 0 by decide), M_ob, bind_some', fN, bind_some', M_gI, bind_some', f24]
    by_cases k : rtk ((tkN b n).1 t) = 3
    · rw [if_pos k, M_gI, bind_some', f25 (vl_k _ h62 hkd k)]
      by_cases k2 : rvl (tkN b n) t = nI part
      · rw [if_pos k2, if_pos ((tx_key hp).mpr ⟨k, k2⟩)]
      · rw [if_neg k2, if_neg (fun q => k2 ((tx_key hp).mp q).2)]
    · rw [if_neg k, if_neg (fun q => k ((tx_key hp).mp q).1)]
  rw [hL, B60, B60]
  unfold pC
  by_cases hk : (tkN b n).1 t = 10 + part
  · have hne : t ≠ N := fun e => by rw [e, hT.1] at hk; omega
    rw [if_pos hk, if_pos hk, if_neg (show ¬ (1 : Int32) = 0 by decide)]
    obtain ⟨J2, g1, g2, g3⟩ := m_eRead (N := N) (r := r) (t := t + 1) (out := out) (fu := fu) (BM_9 hB s1) (WM_9 hW s1) hN hNn M1 (by rw [up2_o (by decide)]; exact f22) (by omega) (by omega) hfu
    refine ⟨J2, FT9_tr s1 (FT9_f g1), fun i => by rw [g1.1 9 (by decide) (by decide) (by decide)]; exact r1 i, fun e he => ?_, fun t2 out2 he => ?_⟩
    · obtain ⟨a1, a2, a3⟩ := g2 e he
      rw [a3, b2_some, if_pos rfl]
      exact ⟨a2, rfl⟩
    · obtain ⟨a1, a2, a3, a4, a5⟩ := g3 t2 out2 he
      rw [a5, b2_some, if_neg (show ¬ (1 : Int32) = 0 by decide)]
      exact ⟨a1, by omega, a2, ⟨a3.1, a3.2.2.2.2.1, a3.2.2.2.2.2⟩, rfl⟩
  · rw [if_neg hk, if_neg hk, if_pos rfl]
    refine ⟨up2 J1 9 (4 * r + part) (nI out.length), s1, r1, fun e he => ?_, fun t2 out2 he => by cases he⟩
    cases he
    exact ⟨by rw [up2_o (by decide)]; exact f23, rfl⟩
/-! three parts -/
def pA (T : Tk) : Nat ⊕ (List Nat × (List Nat × List Nat)) := match pC T 0 0 [] with
  | .inr e => .inl e
  | .inl (t1, o1) => match pC T 1 t1 o1 with
    | .inr e => .inl e
    | .inl (t2, o2) => match pC T 2 t2 o2 with
      | .inr e => .inl e
      | .inl (t3, o3) => if T.1 t3 = 0 then .inr (o1, (o2, o3)) else .inl t3
def FTx (r : Nat) (J J' : Nat → Nat → Int32) : Prop := (∀ a, a ≠ 0 → a ≠ 8 → a ≠ 9 → a ≠ 17 → J' a = J a) ∧ (∀ j, j ∉ ext → j ≠ 10 → j ≠ 13 → J' 0 j = J 0 j) ∧ (∀ i, i < 200 * r → J' 8 i = J 8 i) ∧ ∀ i, i < 4 * r → J' 9 i = J 9 i
def MT (b : Nat → Nat) (n r : Nat) (J : Nat → Nat → Int32) (X : Nat ⊕ (List Nat × (List Nat × List Nat))) (E : Option (Int32 × Hp)) : Prop := ∃ J', FTx r J J' ∧ J' 0 10 = 0 ∧ (∀ e, X = .inl e → J' 0 13 = nI r ∧ E = some (-100 - nI (sN b n e), mkM J')) ∧ ∀ o1 o2 o3, X = .inr (o1, (o2, o3)) → J' 0 13 = nI (r + 1) ∧ (J' 9 (4 * r) = 0 ∧ J' 9 (4 * r + 1) = nI o1.length ∧ J' 9 (4 * r + 2) = nI o2.length ∧ J' 9 (4 * r + 3) = nI o3.length) ∧ (∀ i, i < o3.length → J' 8 (200 * r + i) = nI (o3.getD i 0)) ∧ E = some (nI r, mkM J')
theorem m_tend0 {J : Nat → Nat → Int32} {r m fu : Nat} {x : Int32} (h13 : J 0 13 = nI r) (hr : r < 6) : B_X8_text_26 fu 0 (m + 1) (mkM J) 0 x = some (-100 - J 0 23, mkM (up2 (up2 J 9 (4 * r + 3) (J 0 30)) 0 10 0)) := by
  have e : B_X8_text_26 fu 0 (m + 1) (mkM J) 0 x = B_X8_text_122 fu 0 (mkM J) 0 := by
    show L_X8_text_26 _ _ _ _ _ _ = _
    unfold L_X8_text_26 B_X8_text_101
    rw [if_pos rfl, if_pos rfl]
    split <;> rfl
  rw [e]
  unfold B_X8_text_122
  rw [M_r12, bind_some', M_gI, bind_some', M_gI, bind_some', h13, lit 4, nI_mul, lit 3, nI_add, M_p9 (by omega), bind_some', M_pI, bind_some', if_pos rfl, M_gI, bind_some', up2_j (by decide), up2_o (by decide)]
theorem fx9 {r : Nat} {J J' : Nat → Nat → Int32} {v : Int32} (h : FT9 r J J') (h9 : ∀ i, i < 4 * r → J' 9 i = J 9 i) : FTx r J (up2 (up2 J' 9 (4 * r + 3) v) 0 10 0) := ⟨fun a h1 h2 h3 h4 => (funext fun b => by rw [up2_o h1, up2_o h3]).trans (h.1 a h1 h2 h3 h4), fun j hj h10 h13 => by rw [up2_j h10, up2_o (by decide)]; exact h.2.1 j hj, fun i hi => by rw [up2_o (by decide), up2_o (by decide)]; exact h.2.2 i hi, fun i hi => by rw [up2_o (by decide), up2_j (by omega)]; exact h9 i hi⟩
theorem mt_no {J J' : Nat → Nat → Int32} {b : Nat → Nat} {n r e m fu : Nat} {x : Int32} (h : FT9 r J J') (h9 : ∀ i, i < 4 * r → J' 9 i = J 9 i) (h13 : J' 0 13 = nI r) (hr : r < 6) (h23 : J' 0 23 = nI (sN b n e)) : MT b n r J (.inl e) (B_X8_text_26 fu 0 (m + 1) (mkM J') 0 x) := by
  rw [m_tend0 h13 hr, h23]
  refine ⟨up2 (up2 J' 9 (4 * r + 3) (J' 0 30)) 0 10 0, fx9 h h9, up2_s, fun e' he => ?_, fun o1 o2 o3 he => by cases he⟩
  cases he
  exact ⟨by rw [up2_j (by decide), up2_o (by decide)]; exact h13, rfl⟩
theorem m_text {J : Nat → Nat → Int32} {b : Nat → Nat} {n r fu : Nat} (hB : BM J b n) (hW : WM J) (h13 : J 0 13 = nI r) (hr : r < 6) (hfu : 2000 < fu) : MT b n r J (pA (tkN b n)) (F_X8_text fu (mkM J) 0) := by
  have hn := hB.1
  obtain ⟨N, hN, hNn, -⟩ := ex_N (b := b) (n := n)
  have hT : TOK (tkN b n) N := tkN_T (by omega) hNn
  have s0 : FT9 r J (up2 (up2 J 0 22 0) 0 30 0) := FT9_f (FR_tr (FR_0 (by decide)) (FR_0 (by decide)))
  have M0 : MR r (up2 (up2 J 0 22 0) 0 30 0) [] := ⟨⟨by rw [up2_j (by decide), up2_j (by decide)]; exact h13, hr⟩, up2_s, fun i hi => by cases hi⟩
  obtain ⟨fu, rfl⟩ : ∃ z, fu = z + 5 := ⟨fu - 5, by omega⟩
  have hF : F_X8_text (fu + 5) (mkM J) 0 = B_X8_text_26 (fu + 5) 0 (fu + 5) (mkM (up2 (up2 J 0 22 0) 0 30 0)) 1 (nI 0) := by
    unfold F_X8_text
    rw [M_gI, bind_some', h13, if_neg (show ¬ nI r = 6 from fun q => by have := nI_inj (b := 6) (by omega) (by decide) q; omega), M_pI, bind_some', M_pI, bind_some']
    rfl
  rw [hF]
  obtain ⟨J1, a1, a2, a3, a4⟩ := m_part (part := 0) (m := fu + 4) (N := N) (t := 0) (fu := fu + 5) (BM_9 hB s0) (WM_9 hW s0) hN hNn M0 (by rw [up2_j (by decide), up2_s]; rfl) (by omega) (Nat.le_refl _) (by decide) hfu
  have s1 := FT9_tr s0 a1
  have n1 : ∀ i, i < 4 * r → J1 9 i = J 9 i := fun i hi => by rw [a2 i, if_neg (by omega), up2_o (by decide), up2_o (by decide)]
  have k1 : J1 0 13 = nI r := by rw [s1.2.1 13 (by decide)]; exact h13
  unfold pA
  cases hc1 : pC (tkN b n) 0 0 [] with
  | inr e =>
    obtain ⟨b1, b2⟩ := a3 e hc1
    rw [b2]
    exact mt_no s1 n1 k1 hr b1
  | inl q1 =>
    obtain ⟨t1, o1⟩ := q1
    obtain ⟨b1, b2, b3, b4, b5⟩ := a4 t1 o1 hc1
    rw [b5]
    obtain ⟨J2, c1, c2, c3, c4⟩ := m_part (part := 1) (m := fu + 3) (N := N) (t := t1) (fu := fu + 5) (BM_9 hB s1) (WM_9 hW s1) hN hNn b4 b3 b1 b2 (by decide) hfu
    have s2 := FT9_tr s1 c1
    have n2 : ∀ i, i < 4 * r → J2 9 i = J 9 i := fun i hi => by rw [c2 i, if_neg (by omega)]; exact n1 i hi
    have k2 : J2 0 13 = nI r := by rw [s2.2.1 13 (by decide)]; exact h13
    dsimp only
    cases hc2 : pC (tkN b n) 1 t1 o1 with
    | inr e =>
      obtain ⟨d1, d2⟩ := c3 e hc2
      have d2 : B_X8_text_26 (fu + 5) 0 (fu + 4) (mkM J1) 1 (nI (0 + 1)) = _ := d2
      rw [d2]
      exact mt_no s2 n2 k2 hr d1
    | inl q2 =>
      obtain ⟨t2, o2⟩ := q2
      obtain ⟨d1, d2, d3, d4, d5⟩ := c4 t2 o2 hc2
      have d5 : B_X8_text_26 (fu + 5) 0 (fu + 4) (mkM J1) 1 (nI (0 + 1)) = _ := d5
      rw [d5]
      obtain ⟨J3, e1, e2, e3, e4⟩ := m_part (part := 2) (m := fu + 2) (N := N) (t := t2) (fu := fu + 5) (BM_9 hB s2) (WM_9 hW s2) hN hNn d4 d3 d1 d2 (by decide) hfu
      have s3 := FT9_tr s2 e1
      have n3 : ∀ i, i < 4 * r → J3 9 i = J 9 i := fun i hi => by rw [e2 i, if_neg (by omega)]; exact n2 i hi
      have k3 : J3 0 13 = nI r := by rw [s3.2.1 13 (by decide)]; exact h13
      dsimp only
      cases hc3 : pC (tkN b n) 2 t2 o2 with
      | inr e =>
        obtain ⟨f1, f2⟩ := e3 e hc3
        have f2 : B_X8_text_26 (fu + 5) 0 (fu + 3) (mkM J2) 1 (nI (1 + 1)) = _ := f2
        rw [f2]
        exact mt_no s3 n3 k3 hr f1
      | inl q3 =>
        obtain ⟨t3, o3⟩ := q3
        obtain ⟨f1, f2, f3, f4, f5⟩ := e4 t3 o3 hc3
        have f5 : B_X8_text_26 (fu + 5) 0 (fu + 3) (mkM J2) 1 (nI (1 + 1)) = _ := f5
        rw [f5]
        dsimp only
        obtain ⟨J4, g1, g22, g23, g24, g25, gN⟩ := m_next (t := t3) (fu := fu + 5) (BM_9 hB s3) (WM_9 hW s3) f3 (by omega)
        have s4 : FT9 r J J4 := FT9_tr s3 (FT9_n g1)
        have n4 : ∀ i, J4 9 i = J3 9 i := fun i => by rw [g1.1 9 (by decide)]
        have k4 : J4 0 13 = nI r := by rw [s4.2.1 13 (by decide)]; exact h13
        obtain ⟨h62, hkd⟩ := tkN_ok (b := b) (n := n) (t := t3)
        have hL : B_X8_text_26 (fu + 5) 0 (fu + 2) (mkM J3) 1 (nI (2 + 1)) = (if (tkN b n).1 t3 = 0 then B_X8_text_122 (fu + 5) 0 (mkM J4) 1 else B_X8_text_122 (fu + 5) 0 (mkM J4) 0) := by
          show L_X8_text_26 _ _ _ _ _ _ = _
          unfold L_X8_text_26 B_X8_text_101 B_X8_text_121
          rw [if_pos (show (3 : Int32) ≤ nI (2 + 1) by decide), if_neg (show ¬ (1 : Int32) = 0 by decide), M_ob, bind_some', gN, bind_some', M_gI, bind_some', g24]
          by_cases k : (tkN b n).1 t3 = 0
          · rw [if_pos k, if_pos (show rtk ((tkN b n).1 t3) = 0 by rw [k]; rfl)]
          · rw [if_neg k, if_neg (fun q => k ((rt_all _ h62 hkd).2.2.2.2.2.2.2.2.1 q))]
        rw [hL]
        have q30 : J4 0 30 = nI o3.length := by rw [g1.2 30 (by decide)]; exact f4.2.1
        by_cases k : (tkN b n).1 t3 = 0
        · rw [if_pos k, if_pos k]
          refine ⟨up2 (up2 (up2 J4 9 (4 * r + 3) (nI o3.length)) 0 10 0) 0 13 (nI (r + 1)), ?_, by rw [up2_j (by decide), up2_s], fun e he => (by cases he), fun p1 p2 p3 he => ?_⟩
          · have := fx9 (v := nI o3.length) s4 (fun i hi => by rw [n4]; exact n3 i hi)
            exact ⟨fun a h1 h2 h3 h4 => (funext fun b => up2_o h1).trans (this.1 a h1 h2 h3 h4), fun j hj h10 h13 => by rw [up2_j h13]; exact this.2.1 j hj h10 h13, fun i hi => by rw [up2_o (by decide)]; exact this.2.2.1 i hi, fun i hi => by rw [up2_o (by decide)]; exact this.2.2.2 i hi⟩
          · cases he
            refine ⟨up2_s, ⟨?_, ?_, ?_, ?_⟩, fun i hi => ?_, ?_⟩
            · rw [up2_o (by decide), up2_o (by decide), up2_j (by omega), n4, e2, if_neg (by omega), c2, if_neg (by omega), a2, if_pos (by omega)]
              rfl
            · rw [up2_o (by decide), up2_o (by decide), up2_j (by omega), n4, e2, if_neg (by omega), c2, if_pos (by omega)]
            · rw [up2_o (by decide), up2_o (by decide), up2_j (by omega), n4, e2, if_pos (by omega)]
            · rw [up2_o (by decide), up2_o (by decide), up2_s]
            · rw [up2_o (by decide), up2_o (by decide), up2_o (by decide), g1.1 8 (by decide)]
              exact f4.2.2 i hi
            · unfold B_X8_text_122
              rw [M_r12, bind_some', M_gI, bind_some', M_gI, bind_some', k4, q30, lit 4, nI_mul, lit 3, nI_add, M_p9 (by omega), bind_some', M_pI, bind_some', if_neg (show ¬ (1 : Int32) = 0 by decide), M_gI, bind_some', up2_j (by decide), up2_o (by decide), k4, nI_1, M_pI, bind_some', M_gI, bind_some', up2_s, nI_pred]
        · rw [if_neg k, if_neg k]
          have e0 : B_X8_text_122 (fu + 5) 0 (mkM J4) 0 = B_X8_text_26 (fu + 5) 0 (0 + 1) (mkM J4) 0 3 := rfl
          rw [e0]
          exact mt_no s4 (fun i hi => by rw [n4]; exact n3 i hi) k4 hr g23
