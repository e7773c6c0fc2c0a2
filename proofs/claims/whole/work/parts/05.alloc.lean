theorem zdf_0 : ∀ j, j < 15 → defaultValue (tyX0 j) = vp_V (zfl (fun _ => .int 0) (fun _ => .null) (zk 0) 0) j := by decide +kernel
theorem zdf_1 : ∀ j, j < 3 → defaultValue (tyX2 j) = vp_V (zfl (fun _ => .int 0) (fun _ => .null) (zk 1) 0) j := by decide +kernel
theorem zdf_2 : ∀ j, j < 6 → defaultValue (tyX3 j) = vp_V (zfl (fun _ => .int 0) (fun _ => .null) (zk 2) 0) j := by decide +kernel
theorem zdf_3 : ∀ j, j < 3 → defaultValue (tyX4 j) = vp_V (zfl (fun _ => .int 0) (fun _ => .null) (zk 3) 0) j := by decide +kernel
theorem zdf_4 : ∀ j, j < 5 → defaultValue (tyX6 j) = vp_V (zfl (fun _ => .int 0) (fun _ => .null) (zk 4) 0) j := by decide +kernel
theorem zdf_5 : ∀ j, j < 10 → defaultValue (tyX7 j) = vp_V (zfl (fun _ => .int 0) (fun _ => .null) (zk 5) 0) j := by decide +kernel
theorem zdf_6 : ∀ j, j < 37 → defaultValue (tyX8 j) = vp_V (zfl (fun _ => .int 0) (fun _ => .null) (zk 6) 0) j := by decide +kernel
/-! what makes cells -/
def prefs : List PV → List (Option Nat)
  | [] => []
  | .inl _ :: l => prefs l
  | .inr (.inl r) :: l => r :: prefs l
  | .inr (.inr _) :: l => prefs l
theorem cv_ext {g : Gt} {ad ad' : Nat → Nat} {S : Hp} (he : ∀ k, k < S.1 → ad' k = ad k) : ∀ l : List PV, (∀ r ∈ prefs l, okR S r) → l.map (cv g ad') = l.map (cv g ad)
  | [], _ => rfl
  | .inl (.inl x) :: l, h => by
    simp only [List.map_cons, cv]
    rw [cv_ext he l h]
  | .inl (.inr x) :: l, h => by
    simp only [List.map_cons, cv]
    rw [cv_ext he l h]
  | .inr (.inr x) :: l, h => by
    simp only [List.map_cons, cv]
    rw [cv_ext he l h]
  | .inr (.inl r) :: l, h => by
    simp only [List.map_cons, cv]
    have h0 := h r List.mem_cons_self
    rw [cv_ext he l (fun q hq => h q (List.mem_cons_of_mem _ hq))]
    cases r with
    | none => rfl
    | some a =>
      have e : ad' a = ad a := he a h0
      simp [e]
theorem prefs_app : ∀ a b : List PV, prefs (a ++ b) = prefs a ++ prefs b
  | [], _ => rfl
  | .inl _ :: a, b => by simp only [List.cons_append, prefs, prefs_app a b]
  | .inr (.inl r) :: a, b => by simp only [List.cons_append, prefs, prefs_app a b]
  | .inr (.inr _) :: a, b => by simp only [List.cons_append, prefs, prefs_app a b]
theorem mpl_ext {g : Gt} {ad ad' : Nat → Nat} {S : Hp} (he : ∀ k, k < S.1 → ad' k = ad k) (lv : List (Nat × PV)) (h : ∀ r ∈ prefs (lv.map Prod.snd), okR S r) : mpl g ad' lv = mpl g ad lv := by
  have e := cv_ext (g := g) he (lv.map Prod.snd) h
  have key : ∀ l : List (Nat × PV), (l.map Prod.snd).map (cv g ad') = (l.map Prod.snd).map (cv g ad) → mpl g ad' l = mpl g ad l := by
    intro l
    induction l with
    | nil => intro _; rfl
    | cons q l ih =>
      intro h
      simp only [List.map_cons, List.cons.injEq] at h
      simp only [mpl, List.map_cons] at ih ⊢
      rw [h.1, ih h.2]
  exact key lv e
/-- the cells that are there, and what is live, stay what they are -/
def chn (n0 : Nat) (S : Hp) (rs : List (Option Nat)) : Option Unit := if n0 ≤ S.1 ∧ rs.all (okRb S) = true then some () else none
theorem chn_some {n0 : Nat} {S : Hp} {rs : List (Option Nat)} {u : Unit} (h : chn n0 S rs = some u) : n0 ≤ S.1 ∧ ∀ r ∈ rs, okR S r := by
  by_cases q : n0 ≤ S.1 ∧ rs.all (okRb S) = true
  · exact ⟨q.1, fun r hr => okR_of (List.all_eq_true.mp q.2 r hr)⟩
  · cases ie q h
theorem zW_mk {S : Hp} {t n : Nat} (h : zW S) : zW (mk S t n) := by
  intro k j r e
  simp only [mk] at e ⊢
  split at e
  · cases e
  · exact Nat.lt_succ_of_lt (h k j r e)
theorem mk_old {S : Hp} {t n : Nat} : ∀ k, k < S.1 → (mk S t n).2.1 k = S.2.1 k ∧ (∀ j, (mk S t n).2.2.1 k j = S.2.2.1 k j) ∧ ∀ j, (mk S t n).2.2.2 k j = S.2.2.2 k j := by
  intro k hk
  have hne : k ≠ S.1 := Nat.ne_of_lt hk
  exact ⟨by simp [mk, hne], fun j => by simp [mk, hne], fun j => by simp [mk, hne]⟩
section ZA
variable {E : Cx} {cc : ByteArray} {own : String} {rm : Room} {cells slots pc pc' mc ms : Nat} {lv lv' : List (Nat × PV)} {st stk : List PV} {S S' : Hp} {ad : Nat → Nat}
theorem j_widen {c2 s2 : Nat} (h1 : cells ≤ c2) (h2 : slots ≤ s2) (k : J E c2 s2 pc lv st S ad) : J E cells slots pc lv st S ad := by
  intro hw H locs ls hP hD hS hl
  exact W.widen h1 h2 (k hw H locs ls hP hD hS hl)
theorem j_new (K : Kx E cc own rm) {i t N n0 : Nat} {C : String} {T : u_T} {ty0 : Nat → FieldType} {rs : List (Option Nat)} {u : Unit} (ht : t < 7) (hcl : zcl[t]? = some (C, T, N)) (hin : ∀ w ∈ u_ws C T N, w ∈ lw_g) (hty : ∀ k, k < N → parseFieldDescriptor (T k).2.2.1 = some (ty0 k)) (hdf : ∀ j, j < N → defaultValue (ty0 j) = vp_V (zfl (fun _ => .int 0) (fun _ => .null) (zk t) 0) j) (d : decode cc pc = .ok (.new i, 3) ∧ pc + 3 = pc') (hlk : Cond.classLink own i C ∈ lw_g) (hinst : Cond.instantiable C N ∈ lw_g) (hini : Cond.initialized C ∈ lw_g) (hcs : cells + 1 ≤ rm.cells ∧ slots + N ≤ rm.slots) (hrs : prefs (lv.map Prod.snd ++ st) = rs) (e : chn n0 S rs = some u)
    (k : ∀ ad' : Nat → Nat, (∀ k, k < S.1 → ad' k = ad k) → J E (cells + 1) (slots + N) pc' lv (vR (some S.1) :: st) (mk S t 0) ad') : J E cells slots pc lv st S ad := by
  obtain ⟨d, rfl⟩ := d
  obtain ⟨-, hok⟩ := chn_some e
  subst hrs
  rw [prefs_app] at hok
  intro hw H locs ls hP hD hS hl
  have hts := K.2.2.2.2.1
  have hR := K.2.2.2.2.2.2.2.2.2
  refine va_new (ci := t) (fs := zfl (fun _ => .int 0) (fun _ => .null) (zk t) 0) K.1 K.2.1 hts hin ty0 hty K.2.2.2.1 (hts _ hlk) (hts _ hinst) (hts _ hini) K.2.2.2.2.2.1 hP hD hS K.2.2.2.2.2.2.1 hcl hdf (by rw [hR]; exact hcs.1) (by rw [hR]; exact hcs.2) d (fun q H1 hP1 hD1 hS1 => ?_)
  have hx : ∀ k, k < S.1 → va_up ad S.1 q k = ad k := fun k hk => by simp [va_up, Nat.ne_of_lt hk]
  have happ := Wl_app (g := eG E) (ad := ad) (S := S) (S' := mk S t 0) (q := q) (e := .inr (t, zfl (fun _ => .int 0) (fun _ => .null) (zk t) 0)) hw rfl mk_old (by
    rw [zE_obj (t := t) (by simp [mk]) ht]
    simp [mk, va_rf])
  rw [happ] at hP1 hD1
  have k1 := k (va_up ad S.1 q) hx (zW_mk hw) H1 locs ls hP1 hD1 hS1 (by rw [mpl_ext hx lv (fun r hr => hok r (List.mem_append_left _ hr))]; exact hl)
  rw [List.map_cons, cv_ext hx st (fun r hr => hok r (List.mem_append_right _ hr))] at k1
  have e1 : cv (eG E) (va_up ad S.1 q) (vR (some S.1)) = .ref q := by simp [cv, va_rf, va_up]
  rw [e1] at k1
  exact k1
theorem cls_one (K : Kx E cc own rm) {cA c0 : ClassId} {ty : FieldType} {j : Nat} (h0 : (tyg (eG E))[j]? = some (c0, ty)) {tys : List (ClassId × FieldType)} (h : va_K (eD E) zcl (tyg (eG E) ++ [(cA, ty)]) (eS E)) (hty : ty = .int ∨ ∃ C, ty = .object C) : cA = c0 := by
  have h1 := (h.2 (tyg (eG E)).length (cA, ty) (by simp)).2
  have h2 := (K.2.2.2.2.2.1.2 j (c0, ty) h0).2
  rcases hty with rfl | ⟨C, rfl⟩
  · exact Option.some.inj (h1.symm.trans h2)
  · obtain ⟨_, _, _, _, _, e1⟩ := h1
    obtain ⟨_, _, _, _, _, e2⟩ := h2
    exact Option.some.inj (e1.symm.trans e2)
theorem j_nA (K : Kx E cc own rm) {M n0 : Nat} {n : Int32} {rs : List (Option Nat)} {u : Unit} (d : decode cc pc = .ok (.newarray .int, 2) ∧ pc + 2 = pc') (hac : Cond.arrayClass .int ∈ lw_g) (hM : M ≤ 100000) (hcs : cells + 1 ≤ rm.cells ∧ slots + M ≤ rm.slots) (hrs : prefs (lv.map Prod.snd ++ st) = rs) (e : chn n0 S rs = some u) (e2 : nA S M n = some S')
    (k : ∀ ad' : Nat → Nat, (∀ k, k < S.1 → ad' k = ad k) → J E (cells + 1) (slots + M) pc' lv (vR (some S.1) :: st) S' ad') : J E cells slots pc lv (vI n :: st) S ad := by
  obtain ⟨d, rfl⟩ := d
  obtain ⟨-, hok⟩ := chn_some e
  obtain ⟨hn, hnM, rfl⟩ := nA_some e2
  subst hrs
  rw [prefs_app] at hok
  intro hw H locs ls hP hD hS hl
  have hts := K.2.2.2.2.1
  have hR := K.2.2.2.2.2.2.2.2.2
  refine va_newa (atype := .int) (ty := .int) (a0 := (n.toNatClampNeg, .inl (fun _ => 0))) (N' := n.toNatClampNeg) K.1 K.2.1 (hts _ hac) rfl K.2.2.2.2.2.1 hP hD hS K.2.2.2.2.2.2.1 (fun _ => rfl) hn rfl (by show _ * 4 ≤ _; omega) (by rw [hR]; exact hcs.1) (by rw [hR]; omega) d (fun q cA H1 hK1 hP1 hD1 hS1 => ?_)
  obtain rfl : cA = (eG E).1 := cls_one (tys := []) K (j := 0) rfl hK1 (Or.inl rfl)
  have hx : ∀ k, k < S.1 → va_up ad S.1 q k = ad k := fun k hk => by simp [va_up, Nat.ne_of_lt hk]
  have happ := Wl_app (g := eG E) (ad := ad) (S := S) (S' := mk S 7 n.toNatClampNeg) (q := q) (e := .inl ((eG E).1, n.toNatClampNeg, .inl (fun _ => 0))) hw rfl mk_old (by
    rw [zE_int (by simp [mk])]
    simp [mk])
  rw [happ] at hP1 hD1
  refine W.widen (k := cells + 1) (n := slots + M) (Nat.le_refl _) (by omega) ?_
  have k1 := k (va_up ad S.1 q) hx (zW_mk hw) H1 locs ls hP1 hD1 hS1 (by rw [mpl_ext hx lv (fun r hr => hok r (List.mem_append_left _ hr))]; exact hl)
  rw [List.map_cons, cv_ext hx st (fun r hr => hok r (List.mem_append_right _ hr))] at k1
  have e1 : cv (eG E) (va_up ad S.1 q) (vR (some S.1)) = .ref q := by simp [cv, va_rf, va_up]
  rw [e1] at k1
  exact k1
theorem j_nQ (K : Kx E cc own rm) {M n0 i t : Nat} {C : String} {n : Int32} {rs : List (Option Nat)} {u : Unit} (ht : (t = 8 ∧ C = "DrumOfGuilt$Law") ∨ (t = 9 ∧ C = "DrumOfGuilt$Sheet")) (d : decode cc pc = .ok (.anewarray i, 3) ∧ pc + 3 = pc') (hcl : Cond.classLink own i C ∈ lw_g) (hM : M ≤ 100000) (hcs : cells + 1 ≤ rm.cells ∧ slots + M ≤ rm.slots) (hrs : prefs (lv.map Prod.snd ++ st) = rs) (e : chn n0 S rs = some u) (e2 : nQ S t M n = some S')
    (k : ∀ ad' : Nat → Nat, (∀ k, k < S.1 → ad' k = ad k) → J E (cells + 1) (slots + M) pc' lv (vR (some S.1) :: st) S' ad') : J E cells slots pc lv (vI n :: st) S ad := by
  obtain ⟨d, rfl⟩ := d
  obtain ⟨-, hok⟩ := chn_some e
  obtain ⟨hn, hnM, rfl⟩ := nQ_some e2
  subst hrs
  rw [prefs_app] at hok
  intro hw H locs ls hP hD hS hl
  have hts := K.2.2.2.2.1
  have hR := K.2.2.2.2.2.2.2.2.2
  have hx : ∀ q k, k < S.1 → va_up ad S.1 q k = ad k := fun q k hk => by simp [va_up, Nat.ne_of_lt hk]
  have e1 : ∀ q, cv (eG E) (va_up ad S.1 q) (vR (some S.1)) = .ref q := fun q => by simp [cv, va_rf, va_up]
  rcases ht with ⟨rfl, rfl⟩ | ⟨rfl, rfl⟩
  · refine va_newq (C := "DrumOfGuilt$Law") (N' := n.toNatClampNeg) K.1 K.2.1 K.2.2.2.1 (hts _ hcl) K.2.2.2.2.2.2.2.2.1.2.1.1 K.2.2.2.2.2.1 hP hD hS K.2.2.2.2.2.2.1 hn rfl (by omega) (by rw [hR]; exact hcs.1) (by rw [hR]; omega) d (fun q cA H1 hK1 hP1 hD1 hS1 => ?_)
    obtain rfl : cA = (eG E).2.1 := cls_one (tys := []) K (j := 1) rfl hK1 (Or.inr ⟨_, rfl⟩)
    have happ := Wl_app (g := eG E) (ad := ad) (S := S) (S' := mk S 8 n.toNatClampNeg) (q := q) (e := .inl ((eG E).2.1, n.toNatClampNeg, .inr (.inr (.inr (.inr (fun _ => none)))))) hw rfl mk_old (by
      rw [zE_r8 (by simp [mk])]
      simp [mk])
    rw [happ] at hP1 hD1
    refine W.widen (k := cells + 1) (n := slots + M) (Nat.le_refl _) (by omega) ?_
    have k1 := k (va_up ad S.1 q) (hx q) (zW_mk hw) H1 locs ls hP1 hD1 hS1 (by rw [mpl_ext (hx q) lv (fun r hr => hok r (List.mem_append_left _ hr))]; exact hl)
    rw [List.map_cons, cv_ext (hx q) st (fun r hr => hok r (List.mem_append_right _ hr)), e1] at k1
    exact k1
  · refine va_newq (C := "DrumOfGuilt$Sheet") (N' := n.toNatClampNeg) K.1 K.2.1 K.2.2.2.1 (hts _ hcl) K.2.2.2.2.2.2.2.2.1.2.1.2 K.2.2.2.2.2.1 hP hD hS K.2.2.2.2.2.2.1 hn rfl (by omega) (by rw [hR]; exact hcs.1) (by rw [hR]; omega) d (fun q cA H1 hK1 hP1 hD1 hS1 => ?_)
    obtain rfl : cA = (eG E).2.2.1 := cls_one (tys := []) K (j := 2) rfl hK1 (Or.inr ⟨_, rfl⟩)
    have happ := Wl_app (g := eG E) (ad := ad) (S := S) (S' := mk S 9 n.toNatClampNeg) (q := q) (e := .inl ((eG E).2.2.1, n.toNatClampNeg, .inr (.inr (.inr (.inr (fun _ => none)))))) hw rfl mk_old (by
      rw [zE_r9 (by simp [mk])]
      simp [mk])
    rw [happ] at hP1 hD1
    refine W.widen (k := cells + 1) (n := slots + M) (Nat.le_refl _) (by omega) ?_
    have k1 := k (va_up ad S.1 q) (hx q) (zW_mk hw) H1 locs ls hP1 hD1 hS1 (by rw [mpl_ext (hx q) lv (fun r hr => hok r (List.mem_append_left _ hr))]; exact hl)
    rw [List.map_cons, cv_ext (hx q) st (fun r hr => hok r (List.mem_append_right _ hr)), e1] at k1
    exact k1
theorem j_oinit (K : Kx E cc own rm) {i o : Nat} (d : decode cc pc = .ok (.invokespecial i, 3) ∧ pc + 3 = pc') (hlk : Cond.methodLink own i objectInit ∈ lw_g) (hin : Cond.instanceMethod objectInit ∈ lw_g) (hco : Cond.code objectInit ⟨#[0xb1]⟩ 1 none ∈ lw_g) (hf : 1 ≤ rm.frames) (hlo : 12 ≤ rm.locals) (k : J E cells slots pc' lv [] S ad) : J E cells slots pc lv [vR (some o)] S ad := by
  obtain ⟨d, rfl⟩ := d
  intro hw H locs ls hP hD hS hl
  have hts := K.2.2.2.2.1
  have hR := K.2.2.2.2.2.2.2.2.2
  refine W.objInit K.1 K.2.1 K.2.2.2.1 (hts _ hlk) (hts _ hin) (hts _ hco) rfl (by rw [K.2.2.1]; exact hl.1) rfl d (by rw [hR]; exact hf) (by rw [hR]; simpa [JFrame.monitorRoom] using hlo) ?_
  exact W.eq (g2 := F0 (eM E) (pc + 3) ls []) rfl (k hw H locs ls hP hD hS hl)
theorem j_cVa (K : Kx E cc own rm) {n0 : Nat} {rs : List (Option Nat)} {u : Unit} (run : Rn E cells slots mc ms pc lv stk st S ad (QVa S.1 S')) (hp : pc + 3 = pc') (hrs : prefs (lv.map Prod.snd ++ st) = rs) (e : chn n0 S rs = some u) (k : ∀ ad' : Nat → Nat, (∀ k, k < S.1 → ad' k = ad k) → J E (cells + mc) (slots + ms) pc' lv st S' ad') : J E cells slots pc lv stk S ad := by
  subst hp
  obtain ⟨-, hok⟩ := chn_some e
  subst hrs
  rw [prefs_app] at hok
  intro hw H locs ls hP hD hS hl
  obtain ⟨a, hr⟩ := run hw H locs ls hP hD hS hl
  refine va_callv (A0 := eA E) hr hS (fun q _ h => va_A_in K hD hS q h) (va_A_in K hD hS) (fun ad' t H1 locs1 ht hvm hx hB hz hk hS1 => ?_)
  obtain ⟨b1, b2, b3⟩ := hB
  rw [ht] at b1
  have k1 := k ad' hx b3 H1 locs1 ls b1 (D_in (H1 := H1) K hD hS b2) hS1 (by rw [mpl_ext hx lv (fun r hr => hok r (List.mem_append_left _ hr))]; exact hl)
  rw [cv_ext hx st (fun r hr => hok r (List.mem_append_right _ hr))] at k1
  exact k1
theorem j_cRa (K : Kx E cc own rm) {n0 : Nat} {rs : List (Option Nat)} {u : Unit} {r : Option Nat} (run : Rn E cells slots mc ms pc lv stk st S ad (QRa S.1 (r, S'))) (hp : pc + 3 = pc') (hrs : prefs (lv.map Prod.snd ++ st) = rs) (e : chn n0 S rs = some u) (k : ∀ ad' : Nat → Nat, (∀ k, k < S.1 → ad' k = ad k) → J E (cells + mc) (slots + ms) pc' lv (vR r :: st) S' ad') : J E cells slots pc lv stk S ad := by
  subst hp
  obtain ⟨-, hok⟩ := chn_some e
  subst hrs
  rw [prefs_app] at hok
  intro hw H locs ls hP hD hS hl
  obtain ⟨a, hr⟩ := run hw H locs ls hP hD hS hl
  refine va_callq (A0 := eA E) hr hS (fun q _ h => va_A_in K hD hS q h) (va_A_in K hD hS) (fun r1 ad' t H1 locs1 ht hvm hx hB hz hk hS1 => ?_)
  obtain ⟨hx, hre⟩ := hx
  obtain ⟨b1, b2, b3⟩ := hB
  rw [ht] at b1
  rw [hre]
  have k1 := k ad' hx b3 H1 locs1 ls b1 (D_in (H1 := H1) K hD hS b2) hS1 (by rw [mpl_ext hx lv (fun r hr => hok r (List.mem_append_left _ hr))]; exact hl)
  rw [List.map_cons, cv_ext hx st (fun r hr => hok r (List.mem_append_right _ hr))] at k1
  exact k1
/-! the static row, the texts -/
theorem j_getsK (K : Kx E cc own rm) {i : Nat} {ref : String} (d : decode cc pc = .ok (.getstatic i, 3) ∧ pc + 3 = pc') (hrf : "DrumOfGuilt$Kind" = ref) (hlk : Cond.fieldLink own i ref "KIND_ABOVE" "[I" ∈ lw_g) (k : J E cells slots pc' lv (vK 14 :: st) S ad) : J E cells slots pc lv st S ad := by
  obtain ⟨d, rfl⟩ := d
  subst hrf
  intro hw H locs ls hP hD hS hl
  exact va_gets K.1 K.2.1 K.2.2.2.2.2.2.2.2.1.2.2.2.2.2.1 hS K.2.2.2.1 (K.2.2.2.2.1 _ hlk) (fun _ h => h) d (k hw H locs ls hP hD hS hl)
theorem j_getsC (K : Kx E cc own rm) {i : Nat} {ref : String} (d : decode cc pc = .ok (.getstatic i, 3) ∧ pc + 3 = pc') (hrf : "java/lang/String" = ref) (hlk : Cond.fieldLink own i ref "COMPACT_STRINGS" "Z" ∈ lw_g) (k : J E cells slots pc' lv (vI 1 :: st) S ad) : J E cells slots pc lv st S ad := by
  obtain ⟨d, rfl⟩ := d
  subst hrf
  intro hw H locs ls hP hD hS hl
  exact va_gets K.1 K.2.1 K.2.2.2.2.2.2.2.2.1.2.2.2.2.2.2.1 hS K.2.2.2.1 (K.2.2.2.2.1 _ hlk) (fun _ h => h) d (k hw H locs ls hP hD hS hl)
theorem j_getsF (K : Kx E cc own rm) {i : Nat} {ref : String} (d : decode cc pc = .ok (.getstatic i, 3) ∧ pc + 3 = pc') (hrf : "jdk/internal/util/Preconditions" = ref) (hlk : Cond.fieldLink own i ref "SIOOBE_FORMATTER" "Ljava/util/function/BiFunction;" ∈ lw_g) (k1 : J E cells slots pc' lv (vR none :: st) S ad) (k2 : J E cells slots pc' lv (vK 15 :: st) S ad) : J E cells slots pc lv st S ad := by
  obtain ⟨d, rfl⟩ := d
  subst hrf
  intro hw H locs ls hP hD hS hl
  rcases K.2.2.2.2.2.2.2.2.1.2.2.2.2.2.2.2 with h | h
  · exact va_gets K.1 K.2.1 h hS K.2.2.2.1 (K.2.2.2.2.1 _ hlk) (fun _ h => h) d (k1 hw H locs ls hP hD hS hl)
  · exact va_gets K.1 K.2.1 h hS K.2.2.2.1 (K.2.2.2.2.1 _ hlk) (fun _ h => h) d (k2 hw H locs ls hP hD hS hl)
theorem j_lenK (K : Kx E cc own rm) (d : decode cc pc = .ok (.arraylength, 1) ∧ pc + 1 = pc') (k : J E cells slots pc' lv (vI 6 :: st) S ad) : J E cells slots pc lv (vK 14 :: st) S ad := by
  obtain ⟨d, rfl⟩ := d
  intro hw H locs ls hP hD hS hl
  exact va_tlen (v := 6) K.1 K.2.1 K.2.2.2.2.2.2.2.2.1.2.2.2.2.1 hS rfl d (k hw H locs ls hP hD hS hl)
theorem j_aldK (K : Kx E cc own rm) {i : Int32} (hi : vp_in i 6) (d : decode cc pc = .ok (.iaload, 1) ∧ pc + 1 = pc') (k : J E cells slots pc' lv (vI (zkab.getD i.toNatClampNeg 0) :: st) S ad) : J E cells slots pc lv (vI i :: vK 14 :: st) S ad := by
  obtain ⟨d, rfl⟩ := d
  intro hw H locs ls hP hD hS hl
  exact va_ti K.1 K.2.1 K.2.2.2.2.2.2.2.2.1.2.2.2.2.1 hS hi rfl d (k hw H locs ls hP hD hS hl)
theorem j_ldcS (K : Kx E cc own rm) {i q : Nat} {tx : String} (hq : q < 14) (h : (own, i, tx, q) ∈ zStr) (d : decode cc pc = .ok (.ldc i, 2) ∧ pc + 2 = pc') (k : J E cells slots pc' lv (vK q :: st) S ad) : J E cells slots pc lv st S ad := by
  obtain ⟨d, rfl⟩ := d
  intro hw H locs ls hP hD hS hl
  have k1 := k hw H locs ls hP hD hS hl
  have e1 : cv (eG E) ad (vK q) = .ref ((eG E).2.2.2.1 q) := by simp [cv, zsk, show q < 100 by omega]
  rw [List.map_cons, e1] at k1
  exact va_ldcS K.1 K.2.1 K.2.2.2.1 (K.2.2.2.2.2.2.2.2.1.2.2.1 _ h) d k1
theorem zsk_lo {g : Gt} {q : Nat} (h : q < 14) : zsk g q = g.2.2.2.1 q := if_pos (by omega)
theorem zsk_hi {g : Gt} {q : Nat} : zsk g (100 + q) = g.2.2.2.2 q := by
  unfold zsk
  rw [if_neg (by omega), Nat.add_sub_cancel_left]
theorem j_strV (K : Kx E cc own rm) {i q : Nat} {ref : String} (hq : q < 14) (d : decode cc pc = .ok (.getfield i, 3) ∧ pc + 3 = pc') (hrf : "java/lang/String" = ref) (hlk : Cond.fieldLink own i ref "value" "[B" ∈ lw_g) (k : J E cells slots pc' lv (vK (100 + q) :: st) S ad) : J E cells slots pc lv (vK q :: st) S ad := by
  obtain ⟨d, rfl⟩ := d
  subst hrf
  intro hw H locs ls hP hD hS hl
  have k1 := k hw H locs ls hP hD hS hl
  have e1 : cv (eG E) ad (vK (100 + q)) = .ref ((eG E).2.2.2.2 q) := congrArg Value.ref zsk_hi
  have e2 : cv (eG E) ad (vK q) = .ref ((eG E).2.2.2.1 q) := congrArg Value.ref (zsk_lo hq)
  rw [List.map_cons, e1] at k1
  rw [List.map_cons, e2]
  exact vk_getf K.1 K.2.1 (K.2.2.2.2.2.2.2.2.1.2.2.2.1.1 q hq).2.2.1 hS K.2.2.2.1 (K.2.2.2.2.1 _ hlk) (fun _ h => h) d k1
theorem j_strC (K : Kx E cc own rm) {i q : Nat} {ref : String} (hq : q < 14) (d : decode cc pc = .ok (.getfield i, 3) ∧ pc + 3 = pc') (hrf : "java/lang/String" = ref) (hlk : Cond.fieldLink own i ref "coder" "B" ∈ lw_g) (k : J E cells slots pc' lv (vI 0 :: st) S ad) : J E cells slots pc lv (vK q :: st) S ad := by
  obtain ⟨d, rfl⟩ := d
  subst hrf
  intro hw H locs ls hP hD hS hl
  have e2 : cv (eG E) ad (vK q) = .ref ((eG E).2.2.2.1 q) := congrArg Value.ref (zsk_lo hq)
  rw [List.map_cons, e2]
  exact vk_getf K.1 K.2.1 (K.2.2.2.2.2.2.2.2.1.2.2.2.1.1 q hq).2.1 hS K.2.2.2.1 (K.2.2.2.2.1 _ hlk) (fun _ h => h) d (k hw H locs ls hP hD hS hl)
theorem j_lenB (K : Kx E cc own rm) {q : Nat} (hq : q < 14) (d : decode cc pc = .ok (.arraylength, 1) ∧ pc + 1 = pc') (k : J E cells slots pc' lv (vI (Int32.ofNat (zlen.getD q 0)) :: st) S ad) : J E cells slots pc lv (vK (100 + q) :: st) S ad := by
  obtain ⟨d, rfl⟩ := d
  intro hw H locs ls hP hD hS hl
  have e1 : cv (eG E) ad (vK (100 + q)) = .ref ((eG E).2.2.2.2 q) := congrArg Value.ref zsk_hi
  rw [List.map_cons, e1]
  exact va_tlen K.1 K.2.1 (K.2.2.2.2.2.2.2.2.1.2.2.2.1.1 q hq).2.2.2 hS rfl d (k hw H locs ls hP hD hS hl)
theorem j_aldB (K : Kx E cc own rm) {q : Nat} {i : Int32} (hq : q < 14) (hi : vp_in i (zlen.getD q 0)) (d : decode cc pc = .ok (.baload, 1) ∧ pc + 1 = pc') (k : J E cells slots pc' lv (vI ((zbyt.getD q []).getD i.toNatClampNeg 0) :: st) S ad) : J E cells slots pc lv (vI i :: vK (100 + q) :: st) S ad := by
  obtain ⟨d, rfl⟩ := d
  intro hw H locs ls hP hD hS hl
  have e1 : cv (eG E) ad (vK (100 + q)) = .ref ((eG E).2.2.2.2 q) := congrArg Value.ref zsk_hi
  rw [List.map_cons, List.map_cons, e1]
  exact va_tb K.1 K.2.1 (K.2.2.2.2.2.2.2.2.1.2.2.2.1.1 q hq).2.2.2 hS hi rfl d (k hw H locs ls hP hD hS hl)
theorem j_i2c (K : Kx E cc own rm) {x v : Int32} (d : decode cc pc = .ok (.i2c, 1) ∧ pc + 1 = pc') (hv : (x.toUInt32 % 65536).toInt32 = v) (k : J E cells slots pc' lv (vI v :: st) S ad) : J E cells slots pc lv (vI x :: st) S ad := by
  obtain ⟨d, rfl⟩ := d
  subst hv
  intro hw H locs ls hP hD hS hl
  exact lv_i2c K.1 K.2.1 d (by rfl) (k hw H locs ls hP hD hS hl)
/-- an end with a small number's type -/
theorem j_nret (K : Kx E cc own rm) {l : Launch} {y : MethodName} {mL : Nat} {ty : FieldType} {x : Int32} {q : Int32 × Hp} (X : Bx E l y mL (some ty) 0 0 ad (QI q)) (d : decode cc pc = .ok (.ireturn, 1)) (hn : narrow ty (.int x) = .int x) (h : some (x, S) = some q) : J E 0 0 pc lv [vI x] S ad := by
  cases h
  obtain ⟨-, hr, -, -, hq⟩ := X
  intro hw H locs ls hP hD hS hl
  rw [hq]
  exact W.zret K.1 K.2.1 hr hn (fun t ht hW => ⟨⟨x, (), rfl, rfl, by rw [ht]; exact hP, hD, hw⟩, hS.F ht⟩) hS.2.2 d K.2.2.2.2.2.2.2.1
/-- Math's least and most, row copies -/
theorem j_mmax (K : Kx E cc own rm) {i : Nat} {x y : Int32} (d : decode cc pc = .ok (.invokestatic i, 3) ∧ pc + 3 = pc') (hlk : Cond.methodLink own i yJ9_max_7cf53 ∈ lw_g) (hst : Cond.static yJ9_max_7cf53 ∈ lw_g) (hini : Cond.initialized RJ9 ∈ lw_g) (hco : Cond.code yJ9_max_7cf53 cJ9_max_7cf53 2 (some .int) ∈ lw_g) (hf : 1 ≤ rm.frames) (hlo : 21 ≤ rm.locals) (hst4 : st.length ≤ 4) (hc : cells ≤ rm.cells ∧ slots ≤ rm.slots) (k : J E cells slots pc' lv (vI (if x < y then y else x) :: st) S ad) : J E cells slots pc lv (vI y :: vI x :: st) S ad := by
  obtain ⟨d, rfl⟩ := d
  intro hw H locs ls hP hD hS hl
  have hts := K.2.2.2.2.1
  have hR := K.2.2.2.2.2.2.2.2.2
  have h4 := room4 (eG E) ad hst4
  exact va_mmax K.1 K.2.1 (by rw [K.2.2.1]; exact hl.1.symm) K.2.2.2.1 (hts _ hlk) (hts _ hst) (hts _ hini) (hts _ hco) (by rw [hR]; exact hf) (by rw [hR]; omega) (by rw [hR]; exact hc.1) (by rw [hR]; exact hc.2) d (k hw H locs ls hP hD hS hl)
theorem j_mmin (K : Kx E cc own rm) {i : Nat} {x y : Int32} (d : decode cc pc = .ok (.invokestatic i, 3) ∧ pc + 3 = pc') (hlk : Cond.methodLink own i yJ9_min_7cf53 ∈ lw_g) (hst : Cond.static yJ9_min_7cf53 ∈ lw_g) (hini : Cond.initialized RJ9 ∈ lw_g) (hco : Cond.code yJ9_min_7cf53 cJ9_min_7cf53 2 (some .int) ∈ lw_g) (hf : 1 ≤ rm.frames) (hlo : 21 ≤ rm.locals) (hst4 : st.length ≤ 4) (hc : cells ≤ rm.cells ∧ slots ≤ rm.slots) (k : J E cells slots pc' lv (vI (if y < x then y else x) :: st) S ad) : J E cells slots pc lv (vI y :: vI x :: st) S ad := by
  obtain ⟨d, rfl⟩ := d
  intro hw H locs ls hP hD hS hl
  have hts := K.2.2.2.2.1
  have hR := K.2.2.2.2.2.2.2.2.2
  have h4 := room4 (eG E) ad hst4
  exact va_mmin K.1 K.2.1 (by rw [K.2.2.1]; exact hl.1.symm) K.2.2.2.1 (hts _ hlk) (hts _ hst) (hts _ hini) (hts _ hco) (by rw [hR]; exact hf) (by rw [hR]; omega) (by rw [hR]; exact hc.1) (by rw [hR]; exact hc.2) d (k hw H locs ls hP hD hS hl)
theorem j_cpy (K : Kx E cc own rm) {i : Nat} {r q : Option Nat} {sp dp n : Int32} (d : decode cc pc = .ok (.invokestatic i, 3) ∧ pc + 3 = pc') (hlk : Cond.methodLink own i arraycopyName ∈ lw_g) (hnat : Cond.native arraycopyName ∈ lw_g) (hst : Cond.static arraycopyName ∈ lw_g) (hini : Cond.initialized RJ10 ∈ lw_g) (hf : 1 ≤ rm.frames) (hlo : 8 + (nativeFrameWords "java/lang/System" "arraycopy" 5 + 11) ≤ rm.locals) (hst4 : st.length ≤ 4) (e : cpyO S r sp q dp n = some S') (k : J E cells slots pc' lv st S' ad) : J E cells slots pc lv (vI n :: vI dp :: vR q :: vI sp :: vR r :: st) S ad := by
  obtain ⟨d, rfl⟩ := d
  obtain ⟨a, b, rfl, ha, hta, rfl, hb, htb, ⟨h1, h2, h3, h4, h5⟩, rfl⟩ := cpyO_some e
  intro hw H locs ls hP hD hS hl
  have hts := K.2.2.2.2.1
  have hR := K.2.2.2.2.2.2.2.2.2
  have h44 := room4 (eG E) ad hst4
  have hga := (Wl_get (g := eG E) (ad := ad) ha).trans (by rw [zE_int hta])
  have hgb := (Wl_get (g := eG E) (ad := ad) hb).trans (by rw [zE_int htb])
  refine va_copyi (q0 := a) (q1 := b) (t0 := 0) (t1 := 0) (ty := .int) K.1 K.2.1 (by rw [K.2.2.1]; exact hl.1.symm) K.2.2.2.1 (hts _ hlk) (hts _ hnat) (hts _ hst) (hts _ hini) K.2.2.2.2.2.1 hP hD hS hga hgb rfl rfl rfl h1 h2 h3 h4 h5 (fun _ _ => rfl) (by rw [hR]; exact hf) (by rw [hR]; omega) d (fun H1 locs1 hP1 hD1 hS1 => ?_)
  have hw2 := Wl_set (g := eG E) (ad := ad) (S := S) (S' := uA S b (va_cpy (S.2.2.1 a) (S.2.2.1 b) sp.toNatClampNeg dp.toNatClampNeg n.toNatClampNeg)) (k := b) (e := .inl ((eG E).1, (S.2.1 b).2, .inl (va_cpy (S.2.2.1 a) (S.2.2.1 b) sp.toNatClampNeg dp.toNatClampNeg n.toNatClampNeg))) hb rfl (fun x hx => zE_congr rfl (fun j => by simp [uA, hx]) (fun j => rfl)) (by
    rw [zE_int (S := uA S b _) htb]
    have e1 : (uA S b (va_cpy (S.2.2.1 a) (S.2.2.1 b) sp.toNatClampNeg dp.toNatClampNeg n.toNatClampNeg)).2.2.1 b = va_cpy (S.2.2.1 a) (S.2.2.1 b) sp.toNatClampNeg dp.toNatClampNeg n.toNatClampNeg := by
      funext j
      simp [uA]
    rw [e1]
    rfl)
  rw [hw2] at hP1 hD1
  exact k (zW_uA hw) H1 locs1 ls hP1 hD1 hS1 hl
end ZA
