/-! THE REFERENCE'S READER, its small methods -/
def FR (ex : List Nat) (r : Nat) (J J' : Nat → Nat → Int32) : Prop := (∀ a, a ≠ 0 → a ≠ 8 → a ≠ 17 → J' a = J a) ∧ (∀ j, j ∉ ex → J' 0 j = J 0 j) ∧ ∀ i, i < 200 * r → J' 8 i = J 8 i
theorem FR_rf {ex : List Nat} {r : Nat} {J : Nat → Nat → Int32} : FR ex r J J := ⟨fun _ _ _ _ => rfl, fun _ _ => rfl, fun _ _ => rfl⟩
theorem FR_tr {ex : List Nat} {r : Nat} {J J' J'' : Nat → Nat → Int32} (h : FR ex r J J') (g : FR ex r J' J'') : FR ex r J J'' := ⟨fun a h1 h2 h3 => (g.1 a h1 h2 h3).trans (h.1 a h1 h2 h3), fun j hj => (g.2.1 j hj).trans (h.2.1 j hj), fun i hi => (g.2.2 i hi).trans (h.2.2 i hi)⟩
theorem FR_wk {ex ex' : List Nat} {r : Nat} {J J' : Nat → Nat → Int32} (h : FR ex r J J') (hs : ∀ a ∈ ex, a ∈ ex') : FR ex' r J J' := ⟨h.1, fun j hj => h.2.1 j (fun q => hj (hs j q)), h.2.2⟩
theorem FR_0 {ex : List Nat} {r : Nat} {J : Nat → Nat → Int32} {j : Nat} {v : Int32} (hj : j ∈ ex) : FR ex r J (up2 J 0 j v) := ⟨fun a h1 _ _ => funext fun b => up2_o h1, fun i hi => up2_j (fun q => hi (q ▸ hj)), fun i _ => up2_o (by decide)⟩
def RR (r : Nat) (J : Nat → Nat → Int32) (H out : List Nat) : Prop := (J 0 13 = nI r ∧ r < 6) ∧ J 0 28 = nI H.length ∧ J 0 29 = nI (cnt H) ∧ (stR (H.map nI) (J 17) ∧ ∀ x ∈ H, x < 20) ∧ J 0 30 = nI out.length ∧ ∀ i, i < out.length → J 8 (200 * r + i) = nI (out.getD i 0)
theorem RR_f {ex : List Nat} {r : Nat} {J J' : Nat → Nat → Int32} {H out : List Nat} (h : RR r J H out) (h0 : J' 0 13 = J 0 13 ∧ J' 0 28 = J 0 28 ∧ J' 0 29 = J 0 29 ∧ J' 0 30 = J 0 30) (h8 : J' 8 = J 8) (h17 : J' 17 = J 17) : RR r J' H out := by
  unfold RR
  rw [h0.1, h0.2.1, h0.2.2.1, h0.2.2.2, h8, h17]
  exact h
theorem getD_app {out : List Nat} {c i : Nat} (hi : i < out.length + 1) : (out ++ [c]).getD i 0 = if i = out.length then c else out.getD i 0 := by
  by_cases h : i = out.length
  · rw [if_pos h, h, List.getD_eq_getElem?_getD, List.getElem?_append_right (Nat.le_refl _), Nat.sub_self]
    rfl
  · rw [if_neg h, List.getD_eq_getElem?_getD, List.getD_eq_getElem?_getD, List.getElem?_append_left (by omega)]
theorem m_puts {r c : Nat} {J : Nat → Nat → Int32} {H out : List Nat} (h : RR r J H out) (hl : out.length < 200) : ∃ J', FR [28, 29, 30] r J J' ∧ RR r J' H (out ++ [c]) ∧ F_X8_puts (mkM J) 0 (nI c) = some (mkM J') := by
  obtain ⟨⟨h1, h2⟩, h3, h4, h5, h6, h7⟩ := h
  refine ⟨up2 (up2 J 8 (200 * r + out.length) (nI c)) 0 30 (nI (out.length + 1)), ⟨fun a g1 g2 g3 => funext fun b => by rw [up2_o g1, up2_o g2], fun j hj => by rw [up2_j (fun e => hj (by rw [e]; decide)), up2_o (by decide)], fun i hi => by rw [up2_o (by decide), up2_j (by omega)]⟩, ⟨⟨by rw [up2_j (by decide), up2_o (by decide)]; exact h1, h2⟩, by rw [up2_j (by decide), up2_o (by decide)]; exact h3, by rw [up2_j (by decide), up2_o (by decide)]; exact h4, ⟨?_, h5.2⟩, by rw [up2_s, List.length_append]; rfl, fun i hi => ?_⟩, ?_⟩
  · have e : up2 (up2 J 8 (200 * r + out.length) (nI c)) 0 30 (nI (out.length + 1)) 17 = J 17 := funext fun b => by rw [up2_o (by decide), up2_o (by decide)]
    rw [e]
    exact h5.1
  · rw [List.length_append] at hi
    have hi : i < out.length + 1 := hi
    rw [up2_o (by decide), up2_row, getD_app hi]
    by_cases e : i = out.length
    · rw [if_pos (by omega), if_pos e]
    · rw [if_neg (by omega), if_neg e]
      exact h7 i (by omega)
  · unfold F_X8_puts
    rw [M_r11, bind_some', M_gI, bind_some', h1, M_gI, bind_some', h6, lit 200, nI_mul, nI_add, M_p8 (by omega), bind_some', M_gI, bind_some', up2_o (by decide), h6, nI_1, M_pI, bind_some']
theorem m_rank {S : Hp} {x : Nat} (hx : x < 100) : F_X8_rank S (nI x) = some (nI (rk x), S) := by
  unfold F_X8_rank B_X8_rank_71 rk
  by_cases h0 : x = 0
  · rw [if_pos (show nI x = 0 by rw [h0]; rfl), if_pos h0]; rfl
  rw [if_neg (show ¬ nI x = 0 from nI_ne0 (by omega) (by omega)), if_neg h0]
  have ne : ∀ c, c < 100 → x ≠ c → ¬ nI x = nI c := fun c hc h q => h (nI_inj (by omega) (by omega) q)
  by_cases h1 : x = 11
  · rw [if_pos (show nI x = 11 by rw [h1]; rfl), if_pos h1]; rfl
  rw [if_neg (show ¬ nI x = 11 from ne 11 (by decide) h1), if_neg h1]
  by_cases h2 : x = 12
  · rw [if_pos (show nI x = 12 by rw [h2]; rfl), if_pos h2]; rfl
  rw [if_neg (show ¬ nI x = 12 from ne 12 (by decide) h2), if_neg h2]
  by_cases h3 : x = 13
  · rw [if_pos (show nI x = 13 by rw [h3]; rfl), if_pos h3]; rfl
  rw [if_neg (show ¬ nI x = 13 from ne 13 (by decide) h3), if_neg h3]
  by_cases h4 : x ≤ 15
  · rw [if_neg (show ¬ (15 : Int32) < nI x by rw [lit 15]; exact nI_nlt h4 (by decide)), if_pos h4]; rfl
  rw [if_pos (show (15 : Int32) < nI x by rw [lit 15]; exact nI_lt (by omega) (by omega)), if_neg h4]
  by_cases h5 : x ≤ 17
  · rw [if_neg (show ¬ (17 : Int32) < nI x by rw [lit 17]; exact nI_nlt h5 (by decide)), if_pos h5]; rfl
  rw [if_pos (show (17 : Int32) < nI x by rw [lit 17]; exact nI_lt (by omega) (by omega)), if_neg h5]
  by_cases h6 : x = 18
  · rw [if_pos (show nI x = 18 by rw [h6]; rfl), if_pos h6]; rfl
  · rw [if_neg (show ¬ nI x = 18 from ne 18 (by decide) h6), if_neg h6]; rfl
theorem rk_le {x : Nat} : rk x ≤ 7 := by
  unfold rk
  repeat' split
  all_goals omega
theorem m_unwL {r l fu : Nat} (hl1 : 1 ≤ l) (hl7 : l ≤ 7) : ∀ (H : List Nat) (J : Nat → Nat → Int32) (out : List Nat) (n : Nat), RR r J H out → H.length < n → H.length + out.length < 200 → ∃ J', FR [28, 29, 30] r J J' ∧ RR r J' (dW l H) (out ++ tW l H) ∧ B_X8_unwinds_0 fu 0 (nI l) n (mkM J) = some (mkM J')
  | [], J, out, n, h, hn, hlen => by
    obtain ⟨n, rfl⟩ : ∃ q, n = q + 1 := ⟨n - 1, by omega⟩
    refine ⟨J, FR_rf, by show RR r J [] (out ++ []); rw [List.append_nil]; exact h, ?_⟩
    show L_X8_unwinds_0 _ _ _ _ _ = _
    unfold L_X8_unwinds_0 B_X8_unwinds_79
    rw [M_gI, bind_some', h.2.1, if_pos (show nI ([] : List Nat).length ≤ 0 by decide)]
  | x :: H, J, out, n, h, hn, hlen => by
    obtain ⟨n, rfl⟩ : ∃ q, n = q + 1 := ⟨n - 1, by omega⟩
    obtain ⟨⟨h1, h2⟩, h3, h4, ⟨h5, h5'⟩, h6, h7⟩ := id h
    have hx20 := h5' x List.mem_cons_self
    have hlen' : H.length + 1 + out.length < 200 := hlen
    have h3 : J 0 28 = nI (H.length + 1) := h3
    have hxv : J 17 H.length = nI x := by
      have := h5.1
      rw [List.length_map] at this
      exact this
    have hst : stR (H.map nI) (J 17) := h5.2
    show ∃ J', _ ∧ RR r J' (if l ≤ rk x then dW l H else x :: H) (out ++ (if l ≤ rk x then x :: tW l H else [])) ∧ L_X8_unwinds_0 _ _ _ _ _ = _
    unfold L_X8_unwinds_0 B_X8_unwinds_62 B_X8_unwinds_67 B_X8_unwinds_79
    rw [M_gI, bind_some', h3, if_neg (nI_nle (by omega) (by omega)), M_r27, bind_some', bind_some', nI_pred, M_g17 (by omega), bind_some', hxv, m_rank (by omega), b2_some]
    have hrk := rk_le (x := x)
    by_cases hc : l ≤ rk x
    · have hx0 : x ≠ 0 := fun e => by rw [e] at hc; have : rk 0 = 0 := rfl; omega
      have fin : ∀ d : Nat, cnt (x :: H) = d + cnt H → d ≤ 1 → ∃ J', FR [28, 29, 30] r J J' ∧ RR r J' (dW l H) (out ++ x :: tW l H) ∧ ((pI (mkM (up2 J 0 28 (nI H.length))) (some 0) 6 29 (nI (d + cnt H) - nI d)).bind fun S68 => (ob S68 6 (some 0)).bind fun _ => (F_X8_puts S68 0 (nI x)).bind fun S73 => B_X8_unwinds_0 fu 0 (nI l) n S73) = some (mkM J') := by
        intro d hd hd1
        have R1 : RR r (up2 (up2 J 0 28 (nI H.length)) 0 29 (nI (cnt H))) H out := by
          have e17 : up2 (up2 J 0 28 (nI H.length)) 0 29 (nI (cnt H)) 17 = J 17 := funext fun b => by rw [up2_o (by decide), up2_o (by decide)]
          have e8 : up2 (up2 J 0 28 (nI H.length)) 0 29 (nI (cnt H)) 8 = J 8 := funext fun b => by rw [up2_o (by decide), up2_o (by decide)]
          refine ⟨⟨by rw [up2_j (by decide), up2_j (by decide)]; exact h1, h2⟩, by rw [up2_j (by decide), up2_s], up2_s, ⟨by rw [e17]; exact hst, fun y hy => h5' y (List.mem_cons_of_mem _ hy)⟩, by rw [up2_j (by decide), up2_j (by decide)]; exact h6, fun i hi => by rw [e8]; exact h7 i hi⟩
        obtain ⟨J2, s2, R2, f2⟩ := m_puts (c := x) R1 (by omega)
        obtain ⟨J3, s3, R3, f3⟩ := m_unwL hl1 hl7 H J2 (out ++ [x]) n R2 (by have : H.length + 1 < n + 1 := hn; omega) (by rw [List.length_append]; show H.length + (out.length + 1) < 200; omega)
        refine ⟨J3, FR_tr (FR_tr (FR_tr (FR_0 (by decide)) (FR_0 (by decide))) s2) s3, ?_, ?_⟩
        · rw [List.append_assoc] at R3
          exact R3
        · rw [pk_sub (by omega), Nat.add_sub_cancel_left, M_pI, bind_some', M_ob, bind_some', f2, bind_some']
          exact f3
      have ne : ∀ c, c < 100 → x ≠ c → ¬ nI x = nI c := fun c hc h q => h (nI_inj (by omega) (by omega) q)
      rw [if_pos hc, if_pos hc, if_neg (nI_nlt hc (by omega)), M_gI, bind_some', h3, nI_pred, M_pI, bind_some', M_r27, bind_some', M_gI, bind_some', up2_s, M_g17 (by omega), bind_some', up2_o (by decide), hxv, M_gI, bind_some', up2_j (by decide), h4]
      by_cases e13 : x = 13
      · rw [if_pos (show nI x = 13 by rw [e13]; rfl)]
        have ec : cnt (x :: H) = 1 + cnt H := by show (if _ then 1 else 0) + cnt H = _; rw [if_pos (Or.inr (Or.inl e13))]
        rw [ec]
        exact fin 1 ec (Nat.le_refl _)
      · rw [if_neg (show ¬ nI x = 13 from ne 13 (by decide) e13)]
        by_cases e19 : x = 19
        · rw [if_pos (show nI x = 19 by rw [e19]; rfl)]
          have ec : cnt (x :: H) = 1 + cnt H := by show (if _ then 1 else 0) + cnt H = _; rw [if_pos (Or.inr (Or.inr e19))]
          rw [ec]
          exact fin 1 ec (Nat.le_refl _)
        · rw [if_neg (show ¬ nI x = 19 from ne 19 (by decide) e19)]
          have ec : cnt (x :: H) = 0 + cnt H := by show (if _ then 1 else 0) + cnt H = _; rw [if_neg (by omega)]
          rw [ec]
          exact fin 0 ec (by decide)
    · rw [if_neg hc, if_neg hc, if_pos (nI_lt (by omega) (by omega)), List.append_nil]
      exact ⟨J, FR_rf, h, rfl⟩
theorem m_unw {r l fu : Nat} {H out : List Nat} {J : Nat → Nat → Int32} (hl1 : 1 ≤ l) (hl7 : l ≤ 7) (h : RR r J H out) (hlen : H.length + out.length < 200) (hfu : 200 < fu) : ∃ J', FR [28, 29, 30] r J J' ∧ RR r J' (dW l H) (out ++ tW l H) ∧ F_X8_unwinds fu (mkM J) 0 (nI l) = some (mkM J') :=
  m_unwL hl1 hl7 H J out fu h (by omega) hlen
theorem m_holds {len c : Nat} {J : Nat → Nat → Int32} (h : J 0 28 = nI len) (hl : len < 200) : F_X8_holds (mkM J) 0 (nI c) = some (mkM (up2 (up2 J 17 len (nI c)) 0 28 (nI (len + 1)))) := by
  unfold F_X8_holds
  rw [M_r27, bind_some', M_gI, bind_some', h, M_p17 hl, bind_some', M_gI, bind_some', up2_o (by decide), h, nI_1, M_pI, bind_some']
theorem m_open {r c : Nat} {J : Nat → Nat → Int32} {H out : List Nat} (h : RR r J H out) (hc : c = 0 ∨ c = 13 ∨ c = 19) (hl : H.length < 200) (h5 : cnt H ≤ 5) : (cnt H = 5 → F_X8_opensOne (mkM J) 0 (nI c) = some (0, mkM J)) ∧ (cnt H ≠ 5 → ∃ J', FR [28, 29, 30] r J J' ∧ RR r J' (c :: H) out ∧ F_X8_opensOne (mkM J) 0 (nI c) = some (1, mkM J')) := by
  obtain ⟨⟨h1, h2⟩, h3, h4, ⟨g5, g5'⟩, h6, h7⟩ := id h
  unfold F_X8_opensOne
  constructor
  · intro h
    rw [M_gI, bind_some', h4, if_pos (show nI (cnt H) = 5 by rw [h]; rfl)]
    rfl
  · intro h
    have e3 : up2 J 0 29 (nI (cnt H + 1)) 0 28 = nI H.length := by rw [up2_j (by decide)]; exact h3
    refine ⟨up2 (up2 (up2 J 0 29 (nI (cnt H + 1))) 17 H.length (nI c)) 0 28 (nI (H.length + 1)), ⟨fun a g1 g2 g3 => funext fun b => by rw [up2_o g1, up2_o g3, up2_o g1], fun j hj => by rw [up2_j (fun e => hj (by rw [e]; decide)), up2_o (by decide), up2_j (fun e => hj (by rw [e]; decide))], fun i hi => by rw [up2_o (by decide), up2_o (by decide), up2_o (by decide)]⟩, ⟨⟨by rw [up2_j (by decide), up2_o (by decide), up2_j (by decide)]; exact h1, h2⟩, by rw [up2_s]; rfl, ?_, ⟨?_, fun y hy => ?_⟩, by rw [up2_j (by decide), up2_o (by decide), up2_j (by decide)]; exact h6, fun i hi => ?_⟩, ?_⟩
    · rw [up2_j (by decide), up2_o (by decide), up2_s]
      show nI (cnt H + 1) = nI ((if c = 0 ∨ c = 13 ∨ c = 19 then 1 else 0) + cnt H)
      rw [if_pos hc, Nat.add_comm]
    · have e : up2 (up2 (up2 J 0 29 (nI (cnt H + 1))) 17 H.length (nI c)) 0 28 (nI (H.length + 1)) 17 = up2 J 17 H.length (nI c) 17 := funext fun b => by rw [up2_o (by decide), up2_row, up2_row, up2_o (by decide)]
      rw [e]
      refine ⟨?_, stR_up g5 (by rw [List.length_map]; exact Nat.le_refl _)⟩
      rw [List.length_map]
      exact up2_s
    · rcases List.mem_cons.mp hy with e | e
      · omega
      · exact g5' y e
    · rw [up2_o (by decide), up2_o (by decide), up2_o (by decide)]
      exact h7 i hi
    · rw [M_gI, bind_some', h4, if_neg (show ¬ nI (cnt H) = 5 from fun q => h (nI_inj (by omega) (by decide) q)), bind_some', nI_1, M_pI, bind_some', M_ob, bind_some', m_holds e3 hl, bind_some']
      rfl
theorem m_push {r c : Nat} {J : Nat → Nat → Int32} {H out : List Nat} (h : RR r J H out) (hc : ¬ (c = 0 ∨ c = 13 ∨ c = 19)) (hc20 : c < 20) (hl : H.length < 200) : ∃ J', FR [28, 29, 30] r J J' ∧ RR r J' (c :: H) out ∧ F_X8_holds (mkM J) 0 (nI c) = some (mkM J') := by
  obtain ⟨⟨h1, h2⟩, h3, h4, ⟨g5, g5'⟩, h6, h7⟩ := id h
  refine ⟨_, ⟨fun a g1 g2 g3 => funext fun b => by rw [up2_o g1, up2_o g3], fun j hj => by rw [up2_j (fun e => hj (by rw [e]; decide)), up2_o (by decide)], fun i hi => by rw [up2_o (by decide), up2_o (by decide)]⟩, ⟨⟨by rw [up2_j (by decide), up2_o (by decide)]; exact h1, h2⟩, by rw [up2_s]; rfl, ?_, ⟨?_, fun y hy => ?_⟩, by rw [up2_j (by decide), up2_o (by decide)]; exact h6, fun i hi => ?_⟩, m_holds h3 hl⟩
  · rw [up2_j (by decide), up2_o (by decide), h4]
    show nI (cnt H) = nI ((if c = 0 ∨ c = 13 ∨ c = 19 then 1 else 0) + cnt H)
    rw [if_neg hc, Nat.zero_add]
  · have e : up2 (up2 J 17 H.length (nI c)) 0 28 (nI (H.length + 1)) 17 = up2 J 17 H.length (nI c) 17 := funext fun b => up2_o (by decide)
    rw [e]
    refine ⟨?_, stR_up g5 (by rw [List.length_map]; exact Nat.le_refl _)⟩
    rw [List.length_map]
    exact up2_s
  · rcases List.mem_cons.mp hy with e | e
    · omega
    · exact g5' y e
  · rw [up2_o (by decide), up2_o (by decide)]
    exact h7 i hi
