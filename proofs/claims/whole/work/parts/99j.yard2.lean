/-! THE REFERENCE'S READER, an E -/
def kd (k : Nat) : Bool := decide (k ≤ 2 ∨ (10 ≤ k ∧ k ≤ 21) ∨ k = 40 ∨ k = 41 ∨ k = 59 ∨ k = 43 ∨ k = 45 ∨ k = 42 ∨ k = 60 ∨ k = 61)
def rtk (k : Nat) : Int32 := if k = 0 then 0 else if k = 1 then -1 else if k = 2 then 1 else if k ≤ 12 then 3 else if k = 13 then 4 else if k = 14 then 5 else if k = 15 then 6 else if k ≤ 21 then 2 else nI k
def vlK (k : Nat) : Bool := decide (k = 2 ∨ (10 ≤ k ∧ k ≤ 12) ∨ (16 ≤ k ∧ k ≤ 21))
def rvl (T : Tk) (t : Nat) : Int32 := if T.1 t = 2 then nI (T.2 t) else if T.1 t ≤ 12 then nI (T.1 t - 10) else nI (T.1 t - 16)
theorem rt_a : ∀ k, k < 62 → kd k = true → (rtk k = 1 → k = 2) := by decide +kernel
theorem rt_b : ∀ k, k < 62 → kd k = true → (rtk k = 2 → 16 ≤ k ∧ k ≤ 21) := by decide +kernel
theorem rt_c : ∀ k, k < 62 → kd k = true → (rtk k = 6 → k = 15) := by decide +kernel
theorem rt_d : ∀ k, k < 62 → kd k = true → (rtk k = 45 → k = 45) := by decide +kernel
theorem rt_e : ∀ k, k < 62 → kd k = true → (rtk k = 40 → k = 40) := by decide +kernel
theorem rt_f : ∀ k, k < 62 → kd k = true → (rtk k = 59 → k = 59) := by decide +kernel
theorem rt_g : ∀ k, k < 62 → kd k = true → (rtk k = 41 → k = 41) := by decide +kernel
theorem rt_h : ∀ k, k < 62 → kd k = true → (rtk k = 3 → 10 ≤ k ∧ k ≤ 12) := by decide +kernel
theorem rt_i : ∀ k, k < 62 → kd k = true → (rtk k = 0 → k = 0) := by decide +kernel
theorem rt_j : ∀ k, k < 62 → kd k = true → (16 ≤ k ∧ k ≤ 21 → rtk k = 2) := by decide +kernel
theorem rt_all (k : Nat) (h1 : k < 62) (h2 : kd k = true) : (rtk k = 1 → k = 2) ∧ (rtk k = 2 → 16 ≤ k ∧ k ≤ 21) ∧ (rtk k = 6 → k = 15) ∧ (rtk k = 45 → k = 45) ∧ (rtk k = 40 → k = 40) ∧ (rtk k = 59 → k = 59) ∧ (rtk k = 41 → k = 41) ∧ (rtk k = 3 → 10 ≤ k ∧ k ≤ 12) ∧ (rtk k = 0 → k = 0) ∧ (16 ≤ k ∧ k ≤ 21 → rtk k = 2) := ⟨rt_a k h1 h2, rt_b k h1 h2, rt_c k h1 h2, rt_d k h1 h2, rt_e k h1 h2, rt_f k h1 h2, rt_g k h1 h2, rt_h k h1 h2, rt_i k h1 h2, rt_j k h1 h2⟩
def sgO (k : Nat) : Int32 := if isOp k = true then nI (sg k) else -1
theorem rt_sg : ∀ k, k < 62 → kd k = true → (if rtk k = 4 then 11 else if rtk k = 5 then 12 else if rtk k = 60 then 14 else if rtk k = 61 then 15 else if rtk k = 43 then 16 else if rtk k = 45 then 17 else if rtk k = 42 then 18 else (-1 : Int32)) = sgO k := by decide +kernel
def NX (fu : Nat) (J : Nat → Nat → Int32) (T : Tk) (N : Nat) (sn ps : Nat → Nat) : Prop := ∀ t, t ≤ N → ∀ J' : Nat → Nat → Int32, J' 7 = J 7 → J' 16 = J 16 → J' 0 10 = J 0 10 → J' 0 22 = nI (ps t) → ∃ J'', (∀ a, a ≠ 0 → J'' a = J' a) ∧ (∀ j, j ∉ [22, 23, 24, 25] → J'' 0 j = J' 0 j) ∧ J'' 0 22 = nI (ps (t + 1)) ∧ J'' 0 23 = nI (sn t) ∧ J'' 0 24 = rtk (T.1 t) ∧ (vlK (T.1 t) = true → J'' 0 25 = rvl T t) ∧ F_X8_next fu (mkM J') 0 = some (mkM J'')
abbrev exb : List Nat := [22, 23, 24, 25, 28, 29, 30]
theorem len_td {l : Nat} : ∀ H : List Nat, (dW l H).length + (tW l H).length = H.length
  | [] => rfl
  | x :: H => by
    show (if l ≤ rk x then dW l H else x :: H).length + (if l ≤ rk x then x :: tW l H else []).length = H.length + 1
    have := len_td (l := l) H
    by_cases h : l ≤ rk x
    · rw [if_pos h, if_pos h]
      show (dW l H).length + ((tW l H).length + 1) = _
      omega
    · rw [if_neg h, if_neg h]
      rfl
theorem cnt_dW {l : Nat} : ∀ H : List Nat, cnt (dW l H) ≤ cnt H
  | [] => Nat.le_refl _
  | x :: H => by
    show cnt (if l ≤ rk x then dW l H else x :: H) ≤ _ + cnt H
    have := cnt_dW (l := l) H
    by_cases h : l ≤ rk x
    · rw [if_pos h]
      omega
    · rw [if_neg h]
      exact Nat.le_refl _
theorem dW_top {l x : Nat} {r : List Nat} : ∀ H : List Nat, dW l H = x :: r → rk x < l
  | [], e => by cases e
  | y :: H, e => by
    have e : (if l ≤ rk y then dW l H else y :: H) = x :: r := e
    by_cases h : l ≤ rk y
    · rw [if_pos h] at e
      exact dW_top H e
    · rw [if_neg h] at e
      cases e
      omega
theorem rk_0 {x : Nat} (h : rk x < 1) : x = 0 := by
  unfold rk at h
  repeat' (split at h)
  all_goals omega
theorem m_btw {r k fu : Nat} {J : Nat → Nat → Int32} {H out : List Nat} (hk : isOp k = true) (h : RR r J H out) (hlen : H.length + out.length < 190) (hfu : 200 < fu) : ∃ J', FR [28, 29, 30] r J J' ∧ ((rk (sg k) = 4 ∧ top4 (dW (ul k) H) = true) → F_X8_between fu (mkM J) 0 (nI (sg k)) = some (0, mkM J')) ∧ (¬ (rk (sg k) = 4 ∧ top4 (dW (ul k) H) = true) → RR r J' (sg k :: dW (ul k) H) (out ++ tW (ul k) H) ∧ F_X8_between fu (mkM J) 0 (nI (sg k)) = some (1, mkM J')) := by
  have hs20 : sg k < 20 := by rcases isOp_l hk with e | e | e | e | e | e | e <;> rw [e] <;> decide
  have hu : 1 ≤ ul k ∧ ul k ≤ 7 := by rcases isOp_l hk with e | e | e | e | e | e | e <;> rw [e] <;> decide
  obtain ⟨J1, s1, R1, f1⟩ := m_unw (fu := fu) hu.1 hu.2 h (by omega) hfu
  have hl := len_td (l := ul k) H
  obtain ⟨J2, s2, R2, f2⟩ := m_push (c := sg k) R1 (sg_n hk) hs20 (by omega)
  have hrk := rk_le (x := sg k)
  have hgo : F_X8_between fu (mkM J) 0 (nI (sg k)) = b2 (F_X8_rank (mkM J1) (nI (sg k))) fun v21 S21 => if v21 = (4 : Int32) then (gI S21 (some 0) 6 28).bind fun v29 => if v29 ≤ 0 then B_X8_between_55 fu 0 S21 (nI (sg k)) else (gR S21 (some 0) 6 27).bind fun v36 => (gI S21 (some 0) 6 28).bind fun v40 => (aG S21 v36 (v40 - (1 : Int32))).bind fun v45 => b2 (F_X8_rank S21 v45) fun v46 S46 => if v46 = (4 : Int32) then zb (0 : Int32) S46 else B_X8_between_55 fu 0 S46 (nI (sg k)) else B_X8_between_55 fu 0 S21 (nI (sg k)) := by
    unfold F_X8_between B_X8_between_17
    rw [m_rank (by omega), b2_some]
    by_cases h4 : rk (sg k) = 4
    · have e5 : F_X8_unwinds fu (mkM J) 0 5 = some (mkM J1) := by
        have : ul k = 5 := if_pos h4
        rw [this] at f1
        exact f1
      rw [if_pos (show nI (rk (sg k)) = 4 by rw [h4]; rfl), M_ob, bind_some', e5, bind_some']
    · have e5 : F_X8_unwinds fu (mkM J) 0 (nI (rk (sg k))) = some (mkM J1) := by
        have : ul k = rk (sg k) := if_neg h4
        rw [this] at f1
        exact f1
      rw [if_neg (show ¬ nI (rk (sg k)) = 4 from fun q => h4 (nI_inj (by omega) (by decide) q)), m_rank (by omega), b2_some, M_ob, bind_some', e5, bind_some']
  have b55 : B_X8_between_55 fu 0 (mkM J1) (nI (sg k)) = some (1, mkM J2) := by
    unfold B_X8_between_55
    rw [M_ob, bind_some', f2, bind_some']
    rfl
  rw [hgo, m_rank (by omega), b2_some]
  by_cases h4 : rk (sg k) = 4
  · rw [if_pos (show nI (rk (sg k)) = 4 by rw [h4]; rfl), M_gI, bind_some', R1.2.1]
    cases hd : dW (ul k) H with
    | nil =>
      rw [if_pos (show nI ([] : List Nat).length ≤ 0 by decide), b55]
      rw [hd] at R2
      exact ⟨J2, FR_tr s1 s2, fun q => (by cases q.2), fun _ => ⟨R2, rfl⟩⟩
    | cons x l =>
      rw [hd] at R1 hl R2
      have hl : l.length + 1 + (tW (ul k) H).length = H.length := hl
      have hx20 := R1.2.2.2.1.2 x List.mem_cons_self
      have hxv : J1 17 l.length = nI x := by
        have := R1.2.2.2.1.1.1
        rw [List.length_map] at this
        exact this
      have hrx := rk_le (x := x)
      rw [if_neg (show ¬ nI (x :: l).length ≤ 0 from nI_nle (by show 0 < l.length + 1; omega) (by show l.length + 1 < 2 ^ 31; omega)), M_r27, bind_some', bind_some', show nI (x :: l).length - 1 = nI l.length from nI_pred _, M_g17 (by omega), bind_some', hxv, m_rank (by omega), b2_some, b55]
      by_cases hx : rk x = 4
      · rw [if_pos (show nI (rk x) = 4 by rw [hx]; rfl)]
        exact ⟨J1, s1, fun _ => rfl, fun q => absurd ⟨h4, decide_eq_true hx⟩ q⟩
      · rw [if_neg (show ¬ nI (rk x) = 4 from fun q => hx (nI_inj (by omega) (by decide) q))]
        exact ⟨J2, FR_tr s1 s2, fun q => absurd (of_decide_eq_true q.2) hx, fun _ => ⟨R2, rfl⟩⟩
  · rw [if_neg (show ¬ nI (rk (sg k)) = 4 from fun q => h4 (nI_inj (by omega) (by decide) q)), b55]
    exact ⟨J2, FR_tr s1 s2, fun q => absurd q.1 h4, fun _ => ⟨R2, rfl⟩⟩
def eGd (r N : Nat) (sn ps : Nat → Nat) (J0 : Nat → Nat → Int32) (X : Res) (E : Option (Int32 × Hp)) : Prop := ∃ J', FR exb r J0 J' ∧ (∀ e, X = .inr e → e ≤ N ∧ J' 0 23 = nI (sn e) ∧ E = some (0, mkM J')) ∧ ∀ t2 out2, X = .inl (t2, out2) → t2 ≤ N ∧ J' 0 22 = nI (ps t2) ∧ RR r J' [] out2 ∧ out2.length < t2 ∧ E = some (1, mkM J')
theorem eGd_no {r N t : Nat} {sn ps : Nat → Nat} {J0 J : Nat → Nat → Int32} {E : Option (Int32 × Hp)} (h : FR exb r J0 J) (ht : t ≤ N) (h23 : J 0 23 = nI (sn t)) (hE : E = some (0, mkM J)) : eGd r N sn ps J0 (.inr t) E :=
  ⟨J, h, fun e q => (by cases q; exact ⟨ht, h23, hE⟩), fun t2 out2 q => by cases q⟩
theorem m_eL {fu : Nat} {T : Tk} {N r : Nat} {sn ps : Nat → Nat} {J0 : Nat → Nat → Int32} (hT : TOK T N) (hkd : ∀ t, T.1 t < 62 ∧ kd (T.1 t) = true) (hNX : NX fu J0 T N sn ps) (hfu : 2000 < fu) : ∀ (f t : Nat) (w m : Bool) (H out : List Nat) (J : Nat → Nat → Int32) (n : Nat), f + t = N + 1 → t ≤ N → f < n → FR exb r J0 J → RR r J H out → J 0 22 = nI (ps t) → H.length + out.length ≤ t → cnt H ≤ 5 →
    eGd r N sn ps J0 (run T f t w m H out) (B_X8_eRead_14 fu 0 n (mkM J) (bI w) (bI m)) := by
  have hN := hT.2.1
  intro f
  induction f with
  | zero =>
    intro t w m H out J n hf ht
    omega
  | succ f ih =>
    intro t w m H out J n hf ht hn hF hR h22 hlen hc5
    obtain ⟨n, rfl⟩ : ∃ q, n = q + 1 := ⟨n - 1, by omega⟩
    obtain ⟨k62, kk⟩ := hkd t
    obtain ⟨q1, q2, q6, q45, q40, q59, q41, q3, q0, q16⟩ := rt_all (T.1 t) k62 kk
    obtain ⟨J1, n1, n2, n22, n23, n24, n25, nf⟩ := hNX t ht J (hF.1 7 (by decide) (by decide) (by decide)) (hF.1 16 (by decide) (by decide) (by decide)) (hF.2.1 10 (by decide)) h22
    have F1 : FR exb r J0 J1 := FR_tr hF ⟨fun a h1 _ _ => n1 a h1, fun j hj => n2 j (fun q => hj (by simp at q ⊢; omega)), fun i _ => by rw [n1 8 (by decide)]⟩
    have R1 : RR r J1 H out := RR_f (ex := exb) hR ⟨n2 13 (by decide), n2 28 (by decide), n2 29 (by decide), n2 30 (by decide)⟩ (n1 8 (by decide)) (n1 17 (by decide))
    have go : ∀ (w' m' : Bool) (H' out' : List Nat) (J2 : Nat → Nat → Int32), FR [28, 29, 30] r J1 J2 → RR r J2 H' out' → H'.length + out'.length ≤ t + 1 → cnt H' ≤ 5 → t ≠ N → eGd r N sn ps J0 (run T f (t + 1) w' m' H' out') (B_X8_eRead_14 fu 0 n (mkM J2) (bI w') (bI m')) := fun w' m' H' out' J2 s2 R2 hl2 hc2 hne =>
      ih (t + 1) w' m' H' out' J2 n (by omega) (by omega) (by omega) (FR_tr F1 (FR_wk s2 (by decide))) R2 (by rw [s2.2.1 22 (by decide)]; exact n22) hl2 hc2
    have no : ∀ (J2 : Nat → Nat → Int32), FR [28, 29, 30] r J1 J2 → eGd r N sn ps J0 (.inr t) (some (0, mkM J2)) := fun J2 s2 => eGd_no (FR_tr F1 (FR_wk s2 (by decide))) ht (by rw [s2.2.1 23 (by decide)]; exact n23) rfl
    show eGd r N sn ps J0 (stp T (run T f (t + 1)) t w m H out) (L_X8_eRead_14 (B_X8_eRead_14 fu 0 n) fu 0 (mkM J) (bI w) (bI m))
    have open1 : ∀ (c : Nat) (m' : Bool), (c = 0 ∨ c = 13 ∨ c = 19) → T.1 t ≠ 0 → eGd r N sn ps J0 (if cnt H = 5 then .inr t else run T f (t + 1) true m' (c :: H) out) (b2 (F_X8_opensOne (mkM J1) 0 (nI c)) fun v S => if v = 0 then zb 0 S else B_X8_eRead_14 fu 0 n S (bI true) (bI m')) := by
      intro c m' hc hk0
      obtain ⟨o1, o2⟩ := m_open (c := c) R1 hc (by omega) hc5
      by_cases h5 : cnt H = 5
      · rw [if_pos h5, o1 h5, b2_some, if_pos rfl]
        exact no J1 FR_rf
      · obtain ⟨J2, s2, R2, f2⟩ := o2 h5
        rw [if_neg h5, f2, b2_some, if_neg (by decide)]
        refine go true m' (c :: H) out J2 s2 R2 (by show H.length + 1 + out.length ≤ t + 1; omega) ?_ (fun e => hk0 (by rw [e]; exact hT.1))
        show (if c = 0 ∨ c = 13 ∨ c = 19 then 1 else 0) + cnt H ≤ 5
        rw [if_pos hc]
        omega
    unfold L_X8_eRead_14 stp
    rw [M_ob, bind_some', nf, bind_some']
    cases w with
    | true =>
      rw [if_neg bIt, if_pos rfl, M_gI, bind_some', n24]
      have val : ∀ c : Nat, T.1 t ≠ 0 → eGd r N sn ps J0 (run T f (t + 1) false m (dW 7 H) (out ++ c :: tW 7 H)) (B_X8_eRead_61 (B_X8_eRead_14 fu 0 n) fu 0 (mkM J1) (bI m) (nI c) (some 0)) := by
        intro c hk0
        obtain ⟨J2, s2, R2, f2⟩ := m_puts (c := c) R1 (by omega)
        obtain ⟨J3, s3, R3, f3⟩ := m_unw (l := 7) (fu := fu) (by decide) (by decide) R2 (by rw [List.length_append]; show H.length + (out.length + 1) < 200; omega) (by omega)
        rw [List.append_assoc] at R3
        have hl := len_td (l := 7) H
        have f3 : F_X8_unwinds fu (mkM J2) 0 7 = some (mkM J3) := f3
        unfold B_X8_eRead_61
        rw [M_ob, bind_some', f2, bind_some', M_ob, bind_some', f3, bind_some']
        refine go false m (dW 7 H) (out ++ c :: tW 7 H) J3 (FR_tr s2 s3) R3 (by rw [List.length_append]; show (dW 7 H).length + (out.length + ((tW 7 H).length + 1)) ≤ t + 1; omega) (by have := cnt_dW (l := 7) H; omega) (fun e => hk0 (by rw [e]; exact hT.1))
      by_cases k2 : T.1 t = 2
      · have e1 : rtk (T.1 t) = 1 := by rw [k2]; rfl
        rw [if_pos k2, if_pos e1]
        unfold B_X8_eRead_38
        rw [M_gI, bind_some', n24, if_pos e1, M_gI, bind_some', n25 (decide_eq_true (Or.inl k2))]
        have e2 : rvl T t = nI (T.2 t) := if_pos k2
        rw [e2, lit 100000, nI_add]
        exact val (100000 + T.2 t) (by omega)
      have e1 : ¬ rtk (T.1 t) = 1 := fun q => k2 (q1 q)
      rw [if_neg k2, if_neg e1, bind_some']
      by_cases k16 : 16 ≤ T.1 t ∧ T.1 t ≤ 21
      · have e2 := q16 k16
        rw [if_pos k16, if_pos e2]
        unfold B_X8_eRead_38
        rw [M_gI, bind_some', n24, if_neg e1, M_gI, bind_some', n25 (decide_eq_true (Or.inr (Or.inr k16)))]
        have e3 : rvl T t = nI (T.1 t - 16) := by unfold rvl; rw [if_neg k2, if_neg (by omega)]
        rw [e3]
        exact val (T.1 t - 16) (by omega)
      have e2 : ¬ rtk (T.1 t) = 2 := fun q => k16 (q2 q)
      rw [if_neg k16, if_neg e2, bind_some']
      have b99 : eGd r N sn ps J0 (if T.1 t = 45 then (if cnt H = 5 then .inr t else run T f (t + 1) true false (19 :: H) out) else if T.1 t = 40 then (if cnt H = 5 then .inr t else run T f (t + 1) true true (0 :: H) out) else .inr t) (B_X8_eRead_99 (B_X8_eRead_14 fu 0 n) fu 0 (mkM J1) (bI true)) := by
        unfold B_X8_eRead_99
        rw [M_gI, bind_some', n24]
        by_cases k45 : T.1 t = 45
        · have e45 : rtk (T.1 t) = 45 := by rw [k45]; rfl
          rw [if_pos k45, if_pos e45, M_ob, bind_some']
          exact open1 19 false (Or.inr (Or.inr rfl)) (by omega)
        · rw [if_neg k45, if_neg (fun q => k45 (q45 q)), bind_some']
          by_cases k40 : T.1 t = 40
          · have e40 : rtk (T.1 t) = 40 := by rw [k40]; rfl
            rw [if_pos k40, if_pos e40, M_ob, bind_some']
            exact open1 0 true (Or.inl rfl) (by omega)
          · rw [if_neg k40, if_neg (fun q => k40 (q40 q))]
            exact no J1 FR_rf
      by_cases k15 : T.1 t = 15
      · have e6 : rtk (T.1 t) = 6 := by rw [k15]; rfl
        rw [if_pos e6]
        cases m with
        | false =>
          rw [if_pos bIf, if_neg (fun q => by cases q.2)]
          exact b99
        | true =>
          rw [if_neg bIt, if_pos ⟨k15, rfl⟩, M_ob, bind_some']
          exact open1 13 true (Or.inr (Or.inl rfl)) (by omega)
      · rw [if_neg (fun q => k15 (q6 q)), if_neg (fun q => k15 q.1)]
        exact b99
    | false =>
      rw [if_pos bIf, if_neg (by decide), M_gI, bind_some', n24]
      obtain ⟨J2, s2, R2, f2⟩ := m_unw (l := 1) (fu := fu) (by decide) (by decide) R1 (by omega) (by omega)
      have f2 : F_X8_unwinds fu (mkM J1) 0 1 = some (mkM J2) := f2
      have hl := len_td (l := 1) H
      by_cases k59 : T.1 t = 59
      · have e59 : rtk (T.1 t) = 59 := by rw [k59]; rfl
        have hne : t ≠ N := fun e => by rw [e, hT.1] at k59; cases k59
        rw [if_pos k59, if_pos e59, M_ob, bind_some', f2, bind_some', M_gI, bind_some', R2.2.1]
        unfold B_X8_eRead_176
        cases hd : dW 1 H with
        | nil =>
          rw [hd] at R2 hl
          have hl : 0 + (tW 1 H).length = H.length := hl
          rw [if_pos rfl, if_pos (show nI ([] : List Nat).length = 0 from rfl)]
          refine ⟨J2, FR_tr F1 (FR_wk s2 (by decide)), fun e q => (by cases q), fun t2 out2 q => ?_⟩
          cases q
          refine ⟨by omega, by rw [s2.2.1 22 (by decide)]; exact n22, R2, ?_, rfl⟩
          rw [List.length_append]
          omega
        | cons x l =>
          rw [if_neg (by intro q; cases q), if_neg (show ¬ nI (x :: l).length = 0 from nI_ne0 (Nat.succ_pos _) (by rw [hd] at hl; omega))]
          exact no J2 s2
      rw [if_neg k59, if_neg (fun q => k59 (q59 q)), bind_some']
      by_cases k41 : T.1 t = 41
      · have e41 : rtk (T.1 t) = 41 := by rw [k41]; rfl
        have hne : t ≠ N := fun e => by rw [e, hT.1] at k41; cases k41
        rw [if_pos k41, if_pos e41, M_ob, bind_some', f2, bind_some', M_gI, bind_some', R2.2.1]
        cases hd : dW 1 H with
        | nil =>
          rw [if_pos (show nI ([] : List Nat).length = 0 from rfl)]
          exact no J2 s2
        | cons x l =>
          have hx0 : x = 0 := rk_0 (dW_top H hd)
          subst hx0
          have hcd := cnt_dW (l := 1) H
          rw [hd] at R2 hl hcd
          have hl : l.length + 1 + (tW 1 H).length = H.length := hl
          have ec : cnt (0 :: l) = cnt l + 1 := Nat.add_comm _ _
          obtain ⟨⟨g1, g2⟩, g3, g4, ⟨g5, g5'⟩, g6, g7⟩ := id R2
          have g3 : J2 0 28 = nI (l.length + 1) := g3
          rw [ec] at g4 hcd
          have R3 : RR r (up2 (up2 J2 0 28 (nI l.length)) 0 29 (nI (cnt l))) l (out ++ tW 1 H) := by
            have e17 : up2 (up2 J2 0 28 (nI l.length)) 0 29 (nI (cnt l)) 17 = J2 17 := funext fun b => by rw [up2_o (by decide), up2_o (by decide)]
            have e8 : up2 (up2 J2 0 28 (nI l.length)) 0 29 (nI (cnt l)) 8 = J2 8 := funext fun b => by rw [up2_o (by decide), up2_o (by decide)]
            exact ⟨⟨by rw [up2_j (by decide), up2_j (by decide)]; exact g1, g2⟩, by rw [up2_j (by decide), up2_s], up2_s, ⟨by rw [e17]; exact g5.2, fun y hy => g5' y (List.mem_cons_of_mem _ hy)⟩, by rw [up2_j (by decide), up2_j (by decide)]; exact g6, fun i hi => by rw [e8]; exact g7 i hi⟩
          have s23 : FR [28, 29, 30] r J1 (up2 (up2 J2 0 28 (nI l.length)) 0 29 (nI (cnt l))) := FR_tr s2 (FR_tr (FR_0 (by decide)) (FR_0 (by decide)))
          obtain ⟨J4, s4, R4, f4⟩ := m_unw (l := 7) (fu := fu) (by decide) (by decide) R3 (by rw [List.length_append]; omega) (by omega)
          have f4 : F_X8_unwinds fu (mkM (up2 (up2 J2 0 28 (nI l.length)) 0 29 (nI (cnt l)))) 0 7 = some (mkM J4) := f4
          have hl7 := len_td (l := 7) l
          rw [if_neg (show ¬ nI (0 :: l).length = 0 from nI_ne0 (Nat.succ_pos _) (by show l.length + 1 < 2 ^ 31; omega)), bind_some', show nI (0 :: l).length - 1 = nI l.length from nI_pred _, M_pI, bind_some', M_gI, bind_some', up2_j (by decide), g4, nI_pred, M_pI, bind_some', M_ob, bind_some', f4, bind_some']
          exact go false m (dW 7 l) (out ++ tW 1 H ++ tW 7 l) J4 (FR_tr s23 s4) R4 (by rw [List.length_append, List.length_append]; omega) (by have := cnt_dW (l := 7) l; omega) hne
      rw [if_neg k41, if_neg (fun q => k41 (q41 q)), M_ob, bind_some']
      have hsO : F_X8_signOf (mkM J1) 0 = some (sgO (T.1 t), mkM J1) := by
        rw [← rt_sg (T.1 t) k62 kk]
        unfold F_X8_signOf B_X8_signOf_97
        rw [M_gI, bind_some', bind_some', bind_some', bind_some', bind_some', bind_some', bind_some', n24]
        by_cases c4 : rtk (T.1 t) = 4
        · rw [if_pos c4, if_pos c4]
        rw [if_neg c4, if_neg c4]
        by_cases c5 : rtk (T.1 t) = 5
        · rw [if_pos c5, if_pos c5]
        rw [if_neg c5, if_neg c5]
        by_cases c60 : rtk (T.1 t) = 60
        · rw [if_pos c60, if_pos c60]
        rw [if_neg c60, if_neg c60]
        by_cases c61 : rtk (T.1 t) = 61
        · rw [if_pos c61, if_pos c61]
        rw [if_neg c61, if_neg c61]
        by_cases c43 : rtk (T.1 t) = 43
        · rw [if_pos c43, if_pos c43]
        rw [if_neg c43, if_neg c43]
        by_cases c45 : rtk (T.1 t) = 45
        · rw [if_pos c45, if_pos c45]
        rw [if_neg c45, if_neg c45]
        by_cases c42 : rtk (T.1 t) = 42
        · rw [if_pos c42, if_pos c42]
        · rw [if_neg c42, if_neg c42]
      rw [hsO, b2_some]
      by_cases kop : isOp (T.1 t) = true
      · have eO : sgO (T.1 t) = nI (sg (T.1 t)) := if_pos kop
        have hs20 : sg (T.1 t) < 20 := by rcases isOp_l kop with e | e | e | e | e | e | e <;> rw [e] <;> decide
        have hne : t ≠ N := fun e => by rw [e, hT.1] at kop; exact absurd kop (by decide)
        obtain ⟨J3, s3, h3, h3'⟩ := m_btw (fu := fu) kop R1 (by omega) (by omega)
        unfold B_X8_eRead_247 B_X8_eRead_262
        rw [eO, if_neg (show ¬ nI (sg (T.1 t)) = -1 from nI_m1 (by omega)), M_ob, bind_some', if_pos kop]
        by_cases h4 : rk (sg (T.1 t)) = 4 ∧ top4 (dW (ul (T.1 t)) H) = true
        · rw [if_pos h4, h3 h4, b2_some, if_pos rfl]
          exact no J3 s3
        · obtain ⟨R3, f3⟩ := h3' h4
          have hlu := len_td (l := ul (T.1 t)) H
          have g := fun m' => go true m' (sg (T.1 t) :: dW (ul (T.1 t)) H) (out ++ tW (ul (T.1 t)) H) J3 s3 R3 (by rw [List.length_append]; show (dW (ul (T.1 t)) H).length + 1 + (out.length + (tW (ul (T.1 t)) H).length) ≤ t + 1; omega) (by
            show (if _ then 1 else 0) + cnt (dW (ul (T.1 t)) H) ≤ 5
            rw [if_neg (sg_n kop)]
            have := cnt_dW (l := ul (T.1 t)) H
            omega) hne
          rw [if_neg h4, f3, b2_some, if_neg (by decide)]
          by_cases h12 : sg (T.1 t) ≤ 12
          · rw [decide_eq_true h12, if_neg (show ¬ (12 : Int32) < nI (sg (T.1 t)) by rw [lit 12]; exact nI_nlt h12 (by decide))]
            exact g true
          · rw [decide_eq_false h12, if_pos (show (12 : Int32) < nI (sg (T.1 t)) by rw [lit 12]; exact nI_lt (by omega) (by omega))]
            exact g false
      · have eO : sgO (T.1 t) = -1 := if_neg kop
        unfold B_X8_eRead_247
        rw [eO, if_pos rfl, if_neg kop]
        exact no J1 FR_rf
