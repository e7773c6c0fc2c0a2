/-! CONTRACTS -/
def Wst (D : va_G) (g : Gt) (ad : Nat → Nat) (sz : Nat) (S : Hp) (U : State) : Prop :=
  U.heap.size = sz ∧ va_P D zcl (Wl g ad S) U.heap ∧ va_K D zcl (tyg g) U ∧ va_D (fun _ => True) (Wl g ad S) ∧ zW S ∧ Gx g (va_A (Wl g ad S) sz) U U.heap
theorem Wst_blind {D : va_G} {g : Gt} {ad : Nat → Nat} {sz : Nat} {S : Hp} {av : List Value} : FrameBlind (va_Pc av (Wst D g ad sz S)) := by
  intro a U gf mk h
  obtain ⟨h0, h1, h2, h3, h4, h5, h6⟩ := h
  exact ⟨h0, h1, h2, va_K.moved (u := U) (U := U.calling gf mk a) (Vm.Alike.refl U.vm) h3, h4, h5, h6.calling⟩
def QB (D : va_G) (g : Gt) (ad : Nat → Nat) (A : Nat → Prop) (S : Hp) (U : State) : Prop := va_P D zcl (Wl g ad S) U.heap ∧ va_D A (Wl g ad S) ∧ zW S
abbrev Qk : Type := va_G → Gt → (Nat → Nat) → (Nat → Prop) → Array Value → State → Outcome → State → Prop
def QI (x : Int32 × Hp) : Qk := fun D g ad A => va_Qi (S := Unit) (fun r _ => r = x.1) (fun _ U => QB D g ad A x.2 U) A
def QL (x : Int64 × Hp) : Qk := fun D g ad A => va_Ql (S := Unit) (fun r _ => r = x.1) (fun _ U => QB D g ad A x.2 U) A
def QV (x : Hp) : Qk := fun D g ad A => va_Qv (S := Unit) (fun _ => True) (fun _ U => QB D g ad A x U) A
def QR (x : Option Nat × Hp) : Qk := fun D g ad A => va_Qq (S := Unit) (fun r _ => r = x.1.map ad) (fun _ U => QB D g ad A x.2 U) A
def QK (x : Nat × Hp) : Qk := fun D g ad A => va_Qr (S := Unit) (fun _ => True) (fun _ a U => a = zsk g x.1 ∧ QB D g ad A x.2 U) A
/-- what makes cells: the new addresses come with it -/
def QVa (n0 : Nat) (x : Hp) : Qk := fun D g ad A => va_Qv (S := Nat → Nat) (fun ad' => ∀ k, k < n0 → ad' k = ad k) (fun ad' U => QB D g ad' A x U) A
def QRa (n0 : Nat) (x : Option Nat × Hp) : Qk := fun D g ad A => va_Qq (S := Nat → Nat) (fun r ad' => (∀ k, k < n0 → ad' k = ad k) ∧ r = x.1.map ad') (fun ad' U => QB D g ad' A x.2 U) A
def QIa (n0 : Nat) (x : Int32 × Hp) : Qk := fun D g ad A => va_Qi (S := Nat → Nat) (fun r ad' => (∀ k, k < n0 → ad' k = ad k) ∧ r = x.1) (fun ad' U => QB D g ad' A x.2 U) A
def Ct (l : Launch) (y : MethodName) (cy : ByteArray) (mL : Nat) (ret : Option FieldType) (rm : Room) (mc ms : Nat) (vs : List PV) (S : Hp) (Qc : Qk) : Prop :=
  ∀ (D : va_G) (g : Gt) (ad : Nat → Nat) (sz : Nat), Met l y (Cond.code y cy mL ret :: lw_g) rm (va_Pc (vs.map (cv g ad)) (Wst D g ad sz S)) (Qc D g ad (va_A (Wl g ad S) sz)) mc ms (va_A (Wl g ad S) sz)
def pargs : Nat → List PV → List (Nat × PV)
  | _, [] => []
  | i, v :: vs => (i, v) :: pargs (if pcat v = 2 then i + 2 else i + 1) vs
theorem pargs_lv (g : Gt) (ad : Nat → Nat) : ∀ (vs : List PV) (i : Nat), lv_args i (vs.map (cv g ad)) = mpl g ad (pargs i vs)
  | [], _ => rfl
  | v :: vs, i => by
    simp only [List.map_cons, lv_args, pargs, cv_cat]
    rw [pargs_lv g ad vs]
    rfl
theorem sl_len (g : Gt) (ad : Nat → Nat) : ∀ vs : List PV, (lg_sl (vs.map (cv g ad))).length = (vs.map pcat).sum
  | [] => rfl
  | v :: vs => by
    have e := sl_len g ad vs
    simp only [lg_sl, List.map_cons, List.flatMap_cons, List.length_append, List.sum_cons] at e ⊢
    rw [e, cv_cat]
    rcases v with (x | x) | (r | i) <;> rfl
/-- what a body may use -/
def Bx (E : Cx) (l : Launch) (y : MethodName) (mL : Nat) (ret : Option FieldType) (mc ms : Nat) (ad : Nat → Nat) (Qc : Qk) : Prop :=
  eL E = l ∧ (eT E).sig.returnType = ret ∧ eN E = mL ∧ (eT E).name = y.name ∧ eQ E = MQ (eB E) (Qc (eD E) (eG E) ad (eA E)) (eX E) (eS E) mc ms (eA E)
theorem z_entry {l : Launch} {y : MethodName} {cy : ByteArray} {mL : Nat} {ret : Option FieldType} {rm : Room} {mc ms : Nat} {vs : List PV} {S : Hp} {Qc : Qk} (hy : plainName y.cls = true) (hm : (vs.map pcat).sum ≤ mL)
    (body : ∀ (E : Cx) (ad : Nat → Nat), Kx E cy y.cls rm → Bx E l y mL ret mc ms ad Qc → J E 0 0 0 (pargs 0 vs) [] S ad) : Ct l y cy mL ret rm mc ms vs S Qc := by
  intro D g ad sz
  refine Met.ofW (cc := cy) (maxL := mL) (ret := ret) hy rfl ?_
  intro p e s m args below meth c s₁ B hml hv
  obtain ⟨rfl, hsz, hP, hK, hD0, hw, hG⟩ := hv
  have hts := atoms_spec (ws := Cond.code y cy mL ret :: lw_g) B.pre
  have hown : s.vm.findClass y.cls = some m.cls := findClass_of_methodNamed B.named
  subst hsz
  have hD := hD0.self (sz := s.heap.size)
  have hl := lv_entry (vs.map (cv g ad)) (n := mL) (by rw [sl_len]; exact hm)
  rw [pargs_lv] at hl
  rw [lg_entry_eq]
  exact body (p, l, e, (headSpec (Cond.code y cy mL ret :: lw_g) rm).room, s, m, (vs.map (cv g ad)).toArray, below, meth, c, mL, D, g, va_A (Wl g ad S) s.heap.size, MQ below (Qc D g ad (va_A (Wl g ad S) s.heap.size)) (vs.map (cv g ad)).toArray s mc ms (va_A (Wl g ad S) s.heap.size)) ad
    ⟨B.exec, B.bytes, hml, hown, fun w hw => hts w (List.mem_cons_of_mem _ hw), hK, fun q h => Or.inr h, B.notSynchronized, hG, rfl⟩ ⟨rfl, B.returns, rfl, (name_of_methodNamed B.named B.method).1, rfl⟩ hw s.heap [] _ hP hD va_S.rf hl
section ZR
variable {E : Cx} {cc : ByteArray} {own : String} {rm : Room} {cells slots pc pc' mc ms : Nat} {lv lv' : List (Nat × PV)} {st stk : List PV} {S S' : Hp} {ad : Nat → Nat}
theorem j_iret (K : Kx E cc own rm) {l : Launch} {y : MethodName} {mL : Nat} {x : Int32} {q : Int32 × Hp} (X : Bx E l y mL (some .int) 0 0 ad (QI q)) (d : decode cc pc = .ok (.ireturn, 1)) (h : some (x, S) = some q) : J E 0 0 pc lv [vI x] S ad := by
  cases h
  obtain ⟨-, hr, -, -, hq⟩ := X
  intro hw H locs ls hP hD hS hl
  rw [hq]
  exact W.iret K.1 K.2.1 hr (fun t ht hW => ⟨⟨x, (), rfl, rfl, by rw [ht]; exact hP, hD, hw⟩, hS.F ht⟩) hS.2.2 d K.2.2.2.2.2.2.2.1
theorem j_lret (K : Kx E cc own rm) {l : Launch} {y : MethodName} {mL : Nat} {x : Int64} {q : Int64 × Hp} (X : Bx E l y mL (some .long) 0 0 ad (QL q)) (d : decode cc pc = .ok (.lreturn, 1)) (h : some (x, S) = some q) : J E 0 0 pc lv [vJ x] S ad := by
  cases h
  obtain ⟨-, hr, -, -, hq⟩ := X
  intro hw H locs ls hP hD hS hl
  rw [hq]
  exact W.lret K.1 K.2.1 hr (fun t ht hW => ⟨⟨x, (), rfl, rfl, by rw [ht]; exact hP, hD, hw⟩, hS.F ht⟩) hS.2.2 d K.2.2.2.2.2.2.2.1
theorem j_vret (K : Kx E cc own rm) {l : Launch} {y : MethodName} {mL : Nat} {q : Hp} (X : Bx E l y mL none 0 0 ad (QV q)) (d : decode cc pc = .ok (.return_, 1)) (h : some S = some q) : J E 0 0 pc lv [] S ad := by
  cases h
  obtain ⟨-, hr, -, -, hq⟩ := X
  intro hw H locs ls hP hD hS hl
  rw [hq]
  exact W.vret K.1 K.2.1 hr (fun t ht hW => ⟨⟨(), rfl, trivial, by rw [ht]; exact hP, hD, hw⟩, hS.F ht⟩) hS.2.2 d K.2.2.2.2.2.2.2.1
def zb (x : Int32) (S : Hp) : Option (Int32 × Hp) := if x = 0 ∨ x = 1 then some (x, S) else none
theorem j_zret (K : Kx E cc own rm) {l : Launch} {y : MethodName} {mL : Nat} {x : Int32} {q : Int32 × Hp} (X : Bx E l y mL (some .boolean) 0 0 ad (QI q)) (d : decode cc pc = .ok (.ireturn, 1)) (h : zb x S = some q) : J E 0 0 pc lv [vI x] S ad := by
  by_cases hx : x = 0 ∨ x = 1
  · have h := it hx h
    cases h
    obtain ⟨-, hr, -, -, hq⟩ := X
    intro hw H locs ls hP hD hS hl
    rw [hq]
    exact W.zret K.1 K.2.1 hr (by rcases hx with rfl | rfl <;> rfl) (fun t ht hW => ⟨⟨x, (), rfl, rfl, by rw [ht]; exact hP, hD, hw⟩, hS.F ht⟩) hS.2.2 d K.2.2.2.2.2.2.2.1
  · cases ie hx h
theorem j_rret (K : Kx E cc own rm) {l : Launch} {y : MethodName} {mL : Nat} {C : String} {x : Option Nat} {q : Option Nat × Hp} (X : Bx E l y mL (some (.object C)) 0 0 ad (QR q)) (d : decode cc pc = .ok (.areturn, 1)) (h : some (x, S) = some q) : J E 0 0 pc lv [vR x] S ad := by
  cases h
  obtain ⟨-, hr, -, -, hq⟩ := X
  intro hw H locs ls hP hD hS hl
  rw [hq]
  cases x with
  | none => exact W.aret (v := .null) K.1 K.2.1 hr (Or.inl ⟨C, rfl⟩) (Or.inl rfl) (fun t ht hW => ⟨⟨none, (), rfl, rfl, by rw [ht]; exact hP, hD, hw⟩, hS.F ht⟩) hS.2.2 d K.2.2.2.2.2.2.2.1
  | some a => exact W.aret (v := .ref (ad a)) K.1 K.2.1 hr (Or.inl ⟨C, rfl⟩) (Or.inr ⟨_, rfl⟩) (fun t ht hW => ⟨⟨some (ad a), (), rfl, rfl, by rw [ht]; exact hP, hD, hw⟩, hS.F ht⟩) hS.2.2 d K.2.2.2.2.2.2.2.1
theorem j_kret (K : Kx E cc own rm) {l : Launch} {y : MethodName} {mL : Nat} {C : String} {i : Nat} {q : Nat × Hp} (X : Bx E l y mL (some (.object C)) 0 0 ad (QK q)) (d : decode cc pc = .ok (.areturn, 1)) (h : some (i, S) = some q) : J E 0 0 pc lv [vK i] S ad := by
  cases h
  obtain ⟨-, hr, -, -, hq⟩ := X
  intro hw H locs ls hP hD hS hl
  rw [hq]
  exact W.aret (v := .ref (zsk (eG E) i)) K.1 K.2.1 hr (Or.inl ⟨C, rfl⟩) (Or.inr ⟨_, rfl⟩) (fun t ht hW => ⟨⟨(), zsk (eG E) i, rfl, trivial, rfl, by rw [ht]; exact hP, hD, hw⟩, hS.F ht⟩) hS.2.2 d K.2.2.2.2.2.2.2.1
/-! ends of what makes cells -/
theorem j_vretA (K : Kx E cc own rm) {l : Launch} {y : MethodName} {mL n0 : Nat} {q : Hp} {ad0 : Nat → Nat} (X : Bx E l y mL none mc ms ad0 (QVa n0 q)) (he : ∀ k, k < n0 → ad k = ad0 k) (d : decode cc pc = .ok (.return_, 1)) (hc : cells ≤ mc) (hs : slots ≤ ms) (h : some S = some q) : J E cells slots pc lv [] S ad := by
  cases h
  obtain ⟨-, hr, -, -, hq⟩ := X
  intro hw H locs ls hP hD hS hl
  refine W.widen hc hs ?_
  rw [hq]
  exact W.vret K.1 K.2.1 hr (fun t ht hW => ⟨⟨ad, rfl, he, by rw [ht]; exact hP, hD, hw⟩, hS.F ht⟩) hS.2.2 d K.2.2.2.2.2.2.2.1
theorem j_iretA (K : Kx E cc own rm) {l : Launch} {y : MethodName} {mL n0 : Nat} {x : Int32} {q : Int32 × Hp} {ad0 : Nat → Nat} (X : Bx E l y mL (some .int) mc ms ad0 (QIa n0 q)) (he : ∀ k, k < n0 → ad k = ad0 k) (d : decode cc pc = .ok (.ireturn, 1)) (hc : cells ≤ mc) (hs : slots ≤ ms) (h : some (x, S) = some q) : J E cells slots pc lv [vI x] S ad := by
  cases h
  obtain ⟨-, hr, -, -, hq⟩ := X
  intro hw H locs ls hP hD hS hl
  refine W.widen hc hs ?_
  rw [hq]
  exact W.iret K.1 K.2.1 hr (fun t ht hW => ⟨⟨x, ad, rfl, ⟨he, rfl⟩, by rw [ht]; exact hP, hD, hw⟩, hS.F ht⟩) hS.2.2 d K.2.2.2.2.2.2.2.1
theorem j_rretA (K : Kx E cc own rm) {l : Launch} {y : MethodName} {mL n0 : Nat} {C : String} {x : Option Nat} {q : Option Nat × Hp} {ad0 : Nat → Nat} (X : Bx E l y mL (some (.object C)) mc ms ad0 (QRa n0 q)) (he : ∀ k, k < n0 → ad k = ad0 k) (d : decode cc pc = .ok (.areturn, 1)) (hc : cells ≤ mc) (hs : slots ≤ ms) (h : some (x, S) = some q) : J E cells slots pc lv [vR x] S ad := by
  cases h
  obtain ⟨-, hr, -, -, hq⟩ := X
  intro hw H locs ls hP hD hS hl
  refine W.widen hc hs ?_
  rw [hq]
  cases x with
  | none => exact W.aret (v := .null) K.1 K.2.1 hr (Or.inl ⟨C, rfl⟩) (Or.inl rfl) (fun t ht hW => ⟨⟨none, ad, rfl, ⟨he, rfl⟩, by rw [ht]; exact hP, hD, hw⟩, hS.F ht⟩) hS.2.2 d K.2.2.2.2.2.2.2.1
  | some a => exact W.aret (v := .ref (ad a)) K.1 K.2.1 hr (Or.inl ⟨C, rfl⟩) (Or.inr ⟨_, rfl⟩) (fun t ht hW => ⟨⟨some (ad a), ad, rfl, ⟨he, rfl⟩, by rw [ht]; exact hP, hD, hw⟩, hS.F ht⟩) hS.2.2 d K.2.2.2.2.2.2.2.1
/-! calls -/
theorem good_g {y : MethodName} {cy : ByteArray} {mL : Nat} {ret : Option FieldType} (hco : Cond.code y cy mL ret ∈ lw_g) : GoodIn lw_g (Cond.code y cy mL ret :: lw_g) := by
  intro w hw
  have h : w ∈ lw_g := by
    rcases List.mem_cons.mp hw with rfl | h
    · exact hco
    · exact h
  exact ⟨h, good_of_word (List.mem_filter.mp h).2⟩
theorem room4 (g : Gt) (ad : Nat → Nat) {st : List PV} (h : st.length ≤ 4) : ((st.map (cv g ad)).map fun v => v.category).sum ≤ 8 := by
  have key : ∀ l : List PV, ((l.map (cv g ad)).map fun v => v.category).sum ≤ 2 * l.length := by
    intro l
    induction l with
    | nil => exact Nat.le_refl _
    | cons v t ih =>
      simp only [List.map_cons, List.sum_cons, List.length_cons, cv_cat] at ih ⊢
      have h2 : pcat v ≤ 2 := by rcases v with (x | x) | (r | i) <;> simp [pcat]
      omega
  have := key st
  omega
def Rn (E : Cx) (cells slots mc ms pc : Nat) (lv : List (Nat × PV)) (stk st : List PV) (S : Hp) (ad : Nat → Nat) (Qc : Qk) : Prop :=
  zW S → ∀ (H : Heap) (locs : List Loc) (ls : Array Slot), va_P (eD E) zcl (Wl (eG E) ad S) H → va_D (eA E) (Wl (eG E) ad S) → va_S (eA E) (eS E).heap H locs → lv_has ls (eN E) (mpl (eG E) ad lv) →
    ∃ a, va_Run (eP E) (eL E) (eE E) (eR E) (eS E) (eM E) (eX E) (eB E) (eT E) (eC E) H locs cells slots mc ms (F0 (eM E) pc ls (stk.map (cv (eG E) ad))) (st.map (cv (eG E) ad)) (Qc (eD E) (eG E) ad (va_A (Wl (eG E) ad S) H.size) a) (va_A (Wl (eG E) ad S) H.size)
theorem va_A_in (K : Kx E cc own rm) {H : Heap} {locs : List Loc} (hD : va_D (eA E) (Wl (eG E) ad S)) (hS : va_S (eA E) (eS E).heap H locs) : ∀ q, va_A (Wl (eG E) ad S) H.size q → eA E q := by
  intro q h
  rcases h with ⟨k, e, h⟩ | h
  · exact hD.2 k _ h
  · exact K.2.2.2.2.2.2.1 q (Nat.le_trans hS.1 h)
theorem z_pre (K : Kx E cc own rm) {H : Heap} {locs : List Loc} (hw : zW S) (hP : va_P (eD E) zcl (Wl (eG E) ad S) H) (hD : va_D (eA E) (Wl (eG E) ad S)) (hS : va_S (eA E) (eS E).heap H locs) (vs : List PV) : ∀ U : State, U.heap = H → (eS E).WarmedH U.vm → va_Pc (vs.map (cv (eG E) ad)) (Wst (eD E) (eG E) ad H.size S) (vs.map (cv (eG E) ad)).toArray U := by
  intro U hU hW
  refine ⟨rfl, by rw [hU], by rw [hU]; exact hP, va_K.moved hW.alike K.2.2.2.2.2.1, hD.weaken (fun _ _ _ _ => trivial), hw, ?_⟩
  exact K.2.2.2.2.2.2.2.2.1.call hS hU hW (va_A_in K hD hS)
variable {y : MethodName} {cy : ByteArray} {mL n i t o N : Nat} {ret : Option FieldType} {rmy : Room} {vs : List PV} {Qc : Qk} {C host : String} {T : u_T}
/-- what a call wants, that a program decides -/
def Cw (y : MethodName) (n : Nat) (vs : List PV) (rmy rm : Room) (mL mc ms cells slots : Nat) (st : List PV) : Prop :=
  (y.cls ≠ "java/lang/invoke/MethodHandle" ∧ y.cls ≠ "java/lang/invoke/VarHandle" ∧ (parseMethodDescriptor y.desc).map (fun d => d.parameters.length) = some n) ∧ vs.length = n ∧ rmy.cells = mc ∧ rmy.slots = ms ∧ (rmy.frames + 1 ≤ rm.frames ∧ 8 + (mL + 11) + rmy.locals ≤ rm.locals) ∧ st.length ≤ 4 ∧ cells + mc ≤ rm.cells ∧ slots + ms ≤ rm.slots
theorem r_V (K : Kx E cc own rm) (M : Ct (eL E) y cy mL ret rmy mc ms (vR (some o) :: vs) S Qc) (ho : o < S.1 ∧ (S.2.1 o).1 = t) (ht : t < 7) (hcl : zcl[t]? = some (C, T, N)) (d : decode cc pc = .ok (.invokevirtual i, 3)) (hlk : Cond.methodLink own i y ∈ lw_g) (hin : Cond.instanceMethod y ∈ lw_g) (hsel : Cond.selects C y y ∈ lw_g) (hini : Cond.initialized y.cls ∈ lw_g) (hco : Cond.code y cy mL ret ∈ lw_g) (cw : Cw y n vs rmy rm mL mc ms cells slots st) : Rn E cells slots mc ms pc lv (vs.reverse ++ vR (some o) :: st) st S ad Qc := by
  obtain ⟨c1, c2, c3, c4, c5, c6, c7, c8⟩ := cw
  intro hw H locs ls hP hD hS hl
  have hts := K.2.2.2.2.1
  have hR := K.2.2.2.2.2.2.2.2.2
  have hg := (Wl_get (g := eG E) (ad := ad) ho.1).trans (by rw [zE_obj ho.2 ht])
  refine ⟨_, va_runV (As := vs.map (cv (eG E) ad)) (b := ad o) (rest := st.map (cv (eG E) ad)) (n := n) (C := C) ⟨K.1, K.2.1, K.2.2.1, K.2.2.2.1, hts⟩ (M (eD E) (eG E) ad H.size) ⟨callB_of n hts (good_g hco) rfl c3 c4 (hts _ hini) (hts _ hlk) c1 (by rw [hR]; exact c5), hts _ hin, hts _ hsel⟩ ⟨Wst_blind, va_recv K.2.2.2.2.2.1 hP hcl hg, z_pre K hw hP hD hS (vR (some o) :: vs)⟩ rfl (by rw [List.length_map]; exact c2) hl.1 (by simp [cv, va_rf]) (lv_room (room4 _ _ c6)) d (by rw [hR]; exact ⟨c7, c8⟩)⟩
theorem r_S (K : Kx E cc own rm) (M : Ct (eL E) y cy mL ret rmy mc ms vs S Qc) (d : decode cc pc = .ok (.invokestatic i, 3)) (hlk : Cond.methodLink own i y ∈ lw_g) (hst : Cond.static y ∈ lw_g) (hini : Cond.initialized y.cls ∈ lw_g) (hco : Cond.code y cy mL ret ∈ lw_g) (cw : Cw y n vs rmy rm mL mc ms cells slots st) : Rn E cells slots mc ms pc lv (vs.reverse ++ st) st S ad Qc := by
  obtain ⟨c1, c2, c3, c4, c5, c6, c7, c8⟩ := cw
  intro hw H locs ls hP hD hS hl
  have hts := K.2.2.2.2.1
  have hR := K.2.2.2.2.2.2.2.2.2
  refine ⟨_, va_runS (As := vs.map (cv (eG E) ad)) (rest := st.map (cv (eG E) ad)) (n := n) ⟨K.1, K.2.1, K.2.2.1, K.2.2.2.1, hts⟩ (M (eD E) (eG E) ad H.size) ⟨callB_of n hts (good_g hco) rfl c3 c4 (hts _ hini) (hts _ hlk) c1 (by rw [hR]; exact c5), hts _ hst⟩ ⟨Wst_blind, z_pre K hw hP hD hS vs⟩ rfl (by rw [List.length_map]; exact c2) hl.1 (by simp) (lv_room (room4 _ _ c6)) d (by rw [hR]; exact ⟨c7, c8⟩)⟩
theorem r_SN (K : Kx E cc own rm) (M : Ct (eL E) y cy mL ret rmy mc ms vs S Qc) (d : decode cc pc = .ok (.invokestatic i, 3)) (hlk : (own, i, y, host) ∈ zNest) (hst : Cond.static y ∈ lw_g) (hini : Cond.initialized y.cls ∈ lw_g) (hco : Cond.code y cy mL ret ∈ lw_g) (cw : Cw y n vs rmy rm mL mc ms cells slots st) : Rn E cells slots mc ms pc lv (vs.reverse ++ st) st S ad Qc := by
  obtain ⟨c1, c2, c3, c4, c5, c6, c7, c8⟩ := cw
  intro hw H locs ls hP hD hS hl
  have hts := K.2.2.2.2.1
  have hR := K.2.2.2.2.2.2.2.2.2
  refine ⟨_, va_runSN (As := vs.map (cv (eG E) ad)) (rest := st.map (cv (eG E) ad)) (n := n) (host := host) ⟨K.1, K.2.1, K.2.2.1, K.2.2.2.1, hts⟩ (M (eD E) (eG E) ad H.size) ⟨va_cnB n hts (good_g hco) rfl c3 c4 (K.2.2.2.2.2.2.2.2.1.1 _ hlk) (hts _ hini) c1 (by rw [hR]; exact c5), hts _ hst, trivial⟩ ⟨Wst_blind, z_pre K hw hP hD hS vs⟩ rfl (by rw [List.length_map]; exact c2) hl.1 (by simp) (lv_room (room4 _ _ c6)) d (by rw [hR]; exact ⟨c7, c8⟩)⟩
theorem r_I (K : Kx E cc own rm) (M : Ct (eL E) y cy mL none rmy mc ms (vR (some o) :: vs) S Qc) (d : decode cc pc = .ok (.invokespecial i, 3)) (hnm : y.name = "<init>") (hlk : Cond.methodLink own i y ∈ lw_g) (hin : Cond.instanceMethod y ∈ lw_g) (hini : Cond.initialized y.cls ∈ lw_g) (hco : Cond.code y cy mL none ∈ lw_g) (cw : Cw y n vs rmy rm mL mc ms cells slots st) : Rn E cells slots mc ms pc lv (vs.reverse ++ vR (some o) :: st) st S ad Qc := by
  obtain ⟨c1, c2, c3, c4, c5, c6, c7, c8⟩ := cw
  intro hw H locs ls hP hD hS hl
  have hts := K.2.2.2.2.1
  have hR := K.2.2.2.2.2.2.2.2.2
  refine ⟨_, va_runI (As := vs.map (cv (eG E) ad)) (b := ad o) (rest := st.map (cv (eG E) ad)) (n := n) ⟨K.1, K.2.1, K.2.2.1, K.2.2.2.1, hts⟩ (M (eD E) (eG E) ad H.size) ⟨callB_of n hts (good_g hco) rfl c3 c4 (hts _ hini) (hts _ hlk) c1 (by rw [hR]; exact c5), hnm, hts _ hin⟩ ⟨Wst_blind, z_pre K hw hP hD hS (vR (some o) :: vs)⟩ rfl (by rw [List.length_map]; exact c2) hl.1 (by simp [cv, va_rf]) (lv_room (room4 _ _ c6)) d (by rw [hR]; exact ⟨c7, c8⟩)⟩
theorem r_IN (K : Kx E cc own rm) (M : Ct (eL E) y cy mL none rmy mc ms (vR (some o) :: vs) S Qc) (d : decode cc pc = .ok (.invokespecial i, 3)) (hnm : y.name = "<init>") (hlk : (own, i, y, host) ∈ zNest) (hin : Cond.instanceMethod y ∈ lw_g) (hini : Cond.initialized y.cls ∈ lw_g) (hco : Cond.code y cy mL none ∈ lw_g) (cw : Cw y n vs rmy rm mL mc ms cells slots st) : Rn E cells slots mc ms pc lv (vs.reverse ++ vR (some o) :: st) st S ad Qc := by
  obtain ⟨c1, c2, c3, c4, c5, c6, c7, c8⟩ := cw
  intro hw H locs ls hP hD hS hl
  have hts := K.2.2.2.2.1
  have hR := K.2.2.2.2.2.2.2.2.2
  refine ⟨_, va_runIN (As := vs.map (cv (eG E) ad)) (b := ad o) (rest := st.map (cv (eG E) ad)) (n := n) (host := host) ⟨K.1, K.2.1, K.2.2.1, K.2.2.2.1, hts⟩ (M (eD E) (eG E) ad H.size) ⟨va_cnB n hts (good_g hco) rfl c3 c4 (K.2.2.2.2.2.2.2.2.1.1 _ hlk) (hts _ hini) c1 (by rw [hR]; exact c5), hnm, hts _ hin⟩ ⟨Wst_blind, z_pre K hw hP hD hS (vR (some o) :: vs)⟩ rfl (by rw [List.length_map]; exact c2) hl.1 (by simp [cv, va_rf]) (lv_room (room4 _ _ c6)) d (by rw [hR]; exact ⟨c7, c8⟩)⟩
/-- a text as the receiver -/
theorem r_VK (K : Kx E cc own rm) {ix : Nat} (M : Ct (eL E) y cy mL ret rmy mc ms (vK ix :: vs) S Qc) (hix : ix < 14) (d : decode cc pc = .ok (.invokevirtual i, 3)) (hlk : Cond.methodLink own i y ∈ lw_g) (hin : Cond.instanceMethod y ∈ lw_g) (hsel : Cond.selects RJ0 y y ∈ lw_g) (hini : Cond.initialized y.cls ∈ lw_g) (hco : Cond.code y cy mL ret ∈ lw_g) (cw : Cw y n vs rmy rm mL mc ms cells slots st) : Rn E cells slots mc ms pc lv (vs.reverse ++ vK ix :: st) st S ad Qc := by
  obtain ⟨c1, c2, c3, c4, c5, c6, c7, c8⟩ := cw
  intro hw H locs ls hP hD hS hl
  have hts := K.2.2.2.2.1
  have hR := K.2.2.2.2.2.2.2.2.2
  refine ⟨_, va_runV (As := vs.map (cv (eG E) ad)) (b := zsk (eG E) ix) (rest := st.map (cv (eG E) ad)) (n := n) (C := RJ0) ⟨K.1, K.2.1, K.2.2.1, K.2.2.2.1, hts⟩ (M (eD E) (eG E) ad H.size) ⟨callB_of n hts (good_g hco) rfl c3 c4 (hts _ hini) (hts _ hlk) c1 (by rw [hR]; exact c5), hts _ hin, hts _ hsel⟩ ⟨Wst_blind, by rw [show zsk (eG E) ix = (eG E).2.2.2.1 ix from if_pos (by omega)]; exact vk_recv K.2.2.2.2.2.2.2.2.1.2.2.2.1 hix hS, z_pre K hw hP hD hS (vK ix :: vs)⟩ rfl (by rw [List.length_map]; exact c2) hl.1 (by simp [cv]) (lv_room (room4 _ _ c6)) d (by rw [hR]; exact ⟨c7, c8⟩)⟩
theorem D_in (K : Kx E cc own rm) {H H1 : Heap} {locs : List Loc} {ad' : Nat → Nat} {S'' : Hp} (hD : va_D (eA E) (Wl (eG E) ad S)) (hS : va_S (eA E) (eS E).heap H locs) (h : va_D (va_A (Wl (eG E) ad S) H.size) (Wl (eG E) ad' S'')) : va_D (eA E) (Wl (eG E) ad' S'') := h.weaken (fun _ q _ hq => va_A_in K hD hS q.1 hq)
theorem j_cI (K : Kx E cc own rm) {r : Int32} (run : Rn E cells slots 0 0 pc lv stk st S ad (QI (r, S'))) (hp : pc + 3 = pc') (k : J E cells slots pc' lv (vI r :: st) S' ad) : J E cells slots pc lv stk S ad := by
  subst hp
  intro hw H locs ls hP hD hS hl
  obtain ⟨a, hr⟩ := run hw H locs ls hP hD hS hl
  refine va_calli (A0 := eA E) hr hS (fun q _ h => va_A_in K hD hS q h) (va_A_in K hD hS) (fun r1 u t H1 locs1 ht hvm hpost hB hz hk hS1 => ?_)
  obtain ⟨b1, b2, b3⟩ := hB
  rw [hpost]
  rw [ht] at b1
  exact k b3 H1 locs1 ls b1 (D_in (H1 := H1) K hD hS b2) hS1 hl
theorem j_cL (K : Kx E cc own rm) {r : Int64} (run : Rn E cells slots 0 0 pc lv stk st S ad (QL (r, S'))) (hp : pc + 3 = pc') (k : J E cells slots pc' lv (vJ r :: st) S' ad) : J E cells slots pc lv stk S ad := by
  subst hp
  intro hw H locs ls hP hD hS hl
  obtain ⟨a, hr⟩ := run hw H locs ls hP hD hS hl
  refine va_calll (A0 := eA E) hr hS (fun q _ h => va_A_in K hD hS q h) (va_A_in K hD hS) (fun r1 u t H1 locs1 ht hvm hpost hB hz hk hS1 => ?_)
  obtain ⟨b1, b2, b3⟩ := hB
  rw [hpost]
  rw [ht] at b1
  exact k b3 H1 locs1 ls b1 (D_in (H1 := H1) K hD hS b2) hS1 hl
theorem j_cV (K : Kx E cc own rm) (run : Rn E cells slots 0 0 pc lv stk st S ad (QV S')) (hp : pc + 3 = pc') (k : J E cells slots pc' lv st S' ad) : J E cells slots pc lv stk S ad := by
  subst hp
  intro hw H locs ls hP hD hS hl
  obtain ⟨a, hr⟩ := run hw H locs ls hP hD hS hl
  refine va_callv (A0 := eA E) hr hS (fun q _ h => va_A_in K hD hS q h) (va_A_in K hD hS) (fun u t H1 locs1 ht hvm hpost hB hz hk hS1 => ?_)
  obtain ⟨b1, b2, b3⟩ := hB
  rw [ht] at b1
  exact k b3 H1 locs1 ls b1 (D_in (H1 := H1) K hD hS b2) hS1 hl
theorem j_cR (K : Kx E cc own rm) {r : Option Nat} (run : Rn E cells slots 0 0 pc lv stk st S ad (QR (r, S'))) (hp : pc + 3 = pc') (k : J E cells slots pc' lv (vR r :: st) S' ad) : J E cells slots pc lv stk S ad := by
  subst hp
  intro hw H locs ls hP hD hS hl
  obtain ⟨a, hr⟩ := run hw H locs ls hP hD hS hl
  refine va_callq (A0 := eA E) hr hS (fun q _ h => va_A_in K hD hS q h) (va_A_in K hD hS) (fun r1 u t H1 locs1 ht hvm hpost hB hz hk hS1 => ?_)
  obtain ⟨b1, b2, b3⟩ := hB
  rw [hpost]
  rw [ht] at b1
  exact k b3 H1 locs1 ls b1 (D_in (H1 := H1) K hD hS b2) hS1 hl
theorem j_cK (K : Kx E cc own rm) {r : Nat} (run : Rn E cells slots 0 0 pc lv stk st S ad (QK (r, S'))) (hp : pc + 3 = pc') (k : J E cells slots pc' lv (vK r :: st) S' ad) : J E cells slots pc lv stk S ad := by
  subst hp
  intro hw H locs ls hP hD hS hl
  obtain ⟨a, hr⟩ := run hw H locs ls hP hD hS hl
  refine va_callr (A0 := eA E) hr hS (fun q _ h => va_A_in K hD hS q h) (va_A_in K hD hS) (fun u a1 t H1 locs1 ht hvm hpost hB hz hk hS1 => ?_)
  obtain ⟨b0, b1, b2, b3⟩ := hB
  rw [b0]
  rw [ht] at b1
  exact k b3 H1 locs1 ls b1 (D_in (H1 := H1) K hD hS b2) hS1 hl
end ZR
