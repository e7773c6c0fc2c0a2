/-! THE JUDGEMENT: a frame at pc, with pure locals, stack, heap -/
abbrev Cx : Type := Program × (Launch × (Env × (Room × (State × (MethodId × (Array Value × (List Frame × (Method × (Code × (Nat × (va_G × (Gt × ((Nat → Prop) × (State → Prop))))))))))))))
abbrev eP (E : Cx) := E.1
abbrev eL (E : Cx) := E.2.1
abbrev eE (E : Cx) := E.2.2.1
abbrev eR (E : Cx) := E.2.2.2.1
abbrev eS (E : Cx) := E.2.2.2.2.1
abbrev eM (E : Cx) := E.2.2.2.2.2.1
abbrev eX (E : Cx) := E.2.2.2.2.2.2.1
abbrev eB (E : Cx) := E.2.2.2.2.2.2.2.1
abbrev eT (E : Cx) := E.2.2.2.2.2.2.2.2.1
abbrev eC (E : Cx) := E.2.2.2.2.2.2.2.2.2.1
abbrev eN (E : Cx) := E.2.2.2.2.2.2.2.2.2.2.1
abbrev eD (E : Cx) := E.2.2.2.2.2.2.2.2.2.2.2.1
abbrev eG (E : Cx) := E.2.2.2.2.2.2.2.2.2.2.2.2.1
abbrev eA (E : Cx) := E.2.2.2.2.2.2.2.2.2.2.2.2.2.1
abbrev eQ (E : Cx) := E.2.2.2.2.2.2.2.2.2.2.2.2.2.2
def mpl (g : Gt) (ad : Nat → Nat) (lv : List (Nat × PV)) : List (Nat × Value) := lv.map (fun q => (q.1, cv g ad q.2))
def J (E : Cx) (cells slots pc : Nat) (lv : List (Nat × PV)) (st : List PV) (S : Hp) (ad : Nat → Nat) : Prop :=
  zW S → ∀ (H : Heap) (locs : List Loc) (ls : Array Slot), va_P (eD E) zcl (Wl (eG E) ad S) H → va_D (eA E) (Wl (eG E) ad S) → va_S (eA E) (eS E).heap H locs → lv_has ls (eN E) (mpl (eG E) ad lv) →
    W (eP E) (eL E) (eE E) (eR E) (eS E) (eM E) (eX E) (eB E) (eT E) (eC E) H locs cells slots (eQ E) (F0 (eM E) pc ls (st.map (cv (eG E) ad)))
def Kx (E : Cx) (cc : ByteArray) (own : String) (rm : Room) : Prop :=
  (eP E).tables.exec = Jvm.exec ∧ (eC E).code = cc ∧ (eC E).maxLocals = eN E ∧ (eS E).vm.findClass own = some (eM E).cls ∧ (∀ w ∈ lw_g, w.before (eX E) (eS E) = true) ∧ va_K (eD E) zcl (tyg (eG E)) (eS E) ∧ (∀ q, (eS E).heap.size ≤ q → eA E q) ∧ (eT E).locks = false ∧ Gx (eG E) (eA E) (eS E) (eS E).heap ∧ eR E = rm
theorem mpl_get {g : Gt} {ad : Nat → Nat} {lv : List (Nat × PV)} {k i : Nat} {v : PV} (h : lv[k]? = some (i, v)) : (mpl g ad lv)[k]? = some (i, cv g ad v) := by simp [mpl, h]
/-- what is left of the locals when one is stored -/
def lst (lv : List (Nat × PV)) (i : Nat) (v : PV) : List (Nat × PV) := (i, v) :: lv.filter (fun q => !(q.1 == i) && !(q.1 + 1 == i && pcat q.2 == 2))
def lst2 (lv : List (Nat × PV)) (i : Nat) (v : PV) : List (Nat × PV) := (i, v) :: lv.filter (fun q => !(q.1 == i) && (!(q.1 == i + 1) && !(q.1 + 1 == i && pcat q.2 == 2)))
theorem mpl_filter (g : Gt) (ad : Nat → Nat) (p : Nat × PV → Bool) (p' : Nat × Value → Bool) (h : ∀ q : Nat × PV, p' (q.1, cv g ad q.2) = p q) : ∀ lv : List (Nat × PV), (mpl g ad lv).filter p' = mpl g ad (lv.filter p)
  | [] => rfl
  | q :: lv => by
    have e := mpl_filter g ad p p' h lv
    simp only [mpl, List.map_cons, List.filter_cons, h q] at e ⊢
    by_cases hq : p q = true
    · simp only [hq, if_true, List.map_cons]
      rw [e]
    · simp only [hq]
      exact e
theorem mpl_lst (g : Gt) (ad : Nat → Nat) (lv : List (Nat × PV)) (i : Nat) (v : PV) : (i, cv g ad v) :: (mpl g ad lv).filter (fun q => !(q.1 == i) && !(q.1 + 1 == i && q.2.category == 2)) = mpl g ad (lst lv i v) := by
  rw [mpl_filter g ad (fun q => !(q.1 == i) && !(q.1 + 1 == i && pcat q.2 == 2)) _ (fun q => by simp only [cv_cat])]
  rfl
theorem mpl_lst2 (g : Gt) (ad : Nat → Nat) (lv : List (Nat × PV)) (i : Nat) (v : PV) : (i, cv g ad v) :: (mpl g ad lv).filter (fun q => !(q.1 == i) && (!(q.1 == i + 1) && !(q.1 + 1 == i && q.2.category == 2))) = mpl g ad (lst2 lv i v) := by
  rw [mpl_filter g ad (fun q => !(q.1 == i) && (!(q.1 == i + 1) && !(q.1 + 1 == i && pcat q.2 == 2))) _ (fun q => by simp only [cv_cat])]
  rfl
section ZJ
variable {E : Cx} {cc : ByteArray} {own : String} {rm : Room} {cells slots pc pc' : Nat} {lv lv' : List (Nat × PV)} {st : List PV} {S S' : Hp} {ad : Nat → Nat}
/-- fewer locals -/
theorem j_sub (ks : List Nat) (h : ks.filterMap (fun k => lv[k]?) = lv') (k : J E cells slots pc lv' st S ad) : J E cells slots pc lv st S ad := by
  intro hw H locs ls hP hD hS hl
  refine k hw H locs ls hP hD hS (lv_sub hl ks ?_)
  rw [← h]
  simp only [lv_pick, mpl, List.map_filterMap]
  congr 1
  funext k
  simp
theorem j_iconst (K : Kx E cc own rm) {n : Int} {v : Int32} (d : decode cc pc = .ok (.iconst n, 1) ∧ pc + 1 = pc') (hv : Int32.ofInt n = v) (k : J E cells slots pc' lv (vI v :: st) S ad) : J E cells slots pc lv (st) S ad := by
  obtain ⟨d, rfl⟩ := d
  intro hw H locs ls hP hD hS hl
  exact lv_iconst K.1 K.2.1 d hv (k hw H locs ls hP hD hS hl)
theorem j_bipush (K : Kx E cc own rm) {n : Int} {v : Int32} (d : decode cc pc = .ok (.bipush n, 2) ∧ pc + 2 = pc') (hv : (Int8.ofInt n).toInt32 = v) (k : J E cells slots pc' lv (vI v :: st) S ad) : J E cells slots pc lv (st) S ad := by
  obtain ⟨d, rfl⟩ := d
  intro hw H locs ls hP hD hS hl
  exact lv_bipush K.1 K.2.1 d hv (k hw H locs ls hP hD hS hl)
theorem j_sipush (K : Kx E cc own rm) {n : Int} {v : Int32} (d : decode cc pc = .ok (.sipush n, 3) ∧ pc + 3 = pc') (hv : (Int16.ofInt n).toInt32 = v) (k : J E cells slots pc' lv (vI v :: st) S ad) : J E cells slots pc lv (st) S ad := by
  obtain ⟨d, rfl⟩ := d
  intro hw H locs ls hP hD hS hl
  exact lv_sipush K.1 K.2.1 d hv (k hw H locs ls hP hD hS hl)
theorem j_lconst (K : Kx E cc own rm) {n : Fin 2} {v : Int64} (d : decode cc pc = .ok (.lconst n, 1) ∧ pc + 1 = pc') (hv : Int64.ofNat (n : Nat) = v) (k : J E cells slots pc' lv (vJ v :: st) S ad) : J E cells slots pc lv (st) S ad := by
  obtain ⟨d, rfl⟩ := d
  intro hw H locs ls hP hD hS hl
  exact lv_lconst K.1 K.2.1 d hv (k hw H locs ls hP hD hS hl)
theorem j_ldc (K : Kx E cc own rm) {i : Nat} {v : Int32} (d : decode cc pc = .ok (.ldc i, 2) ∧ pc + 2 = pc') (hc : (Cond.constant own i v) ∈ lw_g) (k : J E cells slots pc' lv (vI v :: st) S ad) : J E cells slots pc lv (st) S ad := by
  obtain ⟨d, rfl⟩ := d
  intro hw H locs ls hP hD hS hl
  exact lv_ldc K.1 K.2.1 K.2.2.2.1 (K.2.2.2.2.1 _ hc) d (k hw H locs ls hP hD hS hl)
theorem j_ldcw (K : Kx E cc own rm) {i : Nat} {v : Int32} (d : decode cc pc = .ok (.ldc_w i, 3) ∧ pc + 3 = pc') (hc : (Cond.constant own i v) ∈ lw_g) (k : J E cells slots pc' lv (vI v :: st) S ad) : J E cells slots pc lv (st) S ad := by
  obtain ⟨d, rfl⟩ := d
  intro hw H locs ls hP hD hS hl
  exact lv_ldcw K.1 K.2.1 K.2.2.2.1 (K.2.2.2.2.1 _ hc) d (k hw H locs ls hP hD hS hl)
theorem j_ldc2 (K : Kx E cc own rm) {i : Nat} {v : Int64} (d : decode cc pc = .ok (.ldc2_w i, 3) ∧ pc + 3 = pc') (hc : (Cond.constantLong own i v) ∈ lw_g) (k : J E cells slots pc' lv (vJ v :: st) S ad) : J E cells slots pc lv (st) S ad := by
  obtain ⟨d, rfl⟩ := d
  intro hw H locs ls hP hD hS hl
  exact lv_ldc2 K.1 K.2.1 K.2.2.2.1 (K.2.2.2.2.1 _ hc) d (k hw H locs ls hP hD hS hl)
theorem j_null (K : Kx E cc own rm)  (d : decode cc pc = .ok (.aconst_null, 1) ∧ pc + 1 = pc')  (k : J E cells slots pc' lv (vR none :: st) S ad) : J E cells slots pc lv (st) S ad := by
  obtain ⟨d, rfl⟩ := d
  intro hw H locs ls hP hD hS hl
  exact lv_null K.1 K.2.1 d (k hw H locs ls hP hD hS hl)
theorem j_iadd (K : Kx E cc own rm) {x y : Int32} (d : decode cc pc = .ok (.iadd, 1) ∧ pc + 1 = pc')  (k : J E cells slots pc' lv (vI (x + y) :: st) S ad) : J E cells slots pc lv (vI y :: vI x :: st) S ad := by
  obtain ⟨d, rfl⟩ := d
  intro hw H locs ls hP hD hS hl
  exact lv_iadd K.1 K.2.1 d (k hw H locs ls hP hD hS hl)
theorem j_isub (K : Kx E cc own rm) {x y : Int32} (d : decode cc pc = .ok (.isub, 1) ∧ pc + 1 = pc')  (k : J E cells slots pc' lv (vI (x - y) :: st) S ad) : J E cells slots pc lv (vI y :: vI x :: st) S ad := by
  obtain ⟨d, rfl⟩ := d
  intro hw H locs ls hP hD hS hl
  exact lv_isub K.1 K.2.1 d (k hw H locs ls hP hD hS hl)
theorem j_imul (K : Kx E cc own rm) {x y : Int32} (d : decode cc pc = .ok (.imul, 1) ∧ pc + 1 = pc')  (k : J E cells slots pc' lv (vI (x * y) :: st) S ad) : J E cells slots pc lv (vI y :: vI x :: st) S ad := by
  obtain ⟨d, rfl⟩ := d
  intro hw H locs ls hP hD hS hl
  exact lv_imul K.1 K.2.1 d (k hw H locs ls hP hD hS hl)
theorem j_iand (K : Kx E cc own rm) {x y : Int32} (d : decode cc pc = .ok (.iand, 1) ∧ pc + 1 = pc')  (k : J E cells slots pc' lv (vI (x &&& y) :: st) S ad) : J E cells slots pc lv (vI y :: vI x :: st) S ad := by
  obtain ⟨d, rfl⟩ := d
  intro hw H locs ls hP hD hS hl
  exact lv_iand K.1 K.2.1 d (k hw H locs ls hP hD hS hl)
theorem j_ior (K : Kx E cc own rm) {x y : Int32} (d : decode cc pc = .ok (.ior, 1) ∧ pc + 1 = pc')  (k : J E cells slots pc' lv (vI (x ||| y) :: st) S ad) : J E cells slots pc lv (vI y :: vI x :: st) S ad := by
  obtain ⟨d, rfl⟩ := d
  intro hw H locs ls hP hD hS hl
  exact lv_ior K.1 K.2.1 d (k hw H locs ls hP hD hS hl)
theorem j_ixor (K : Kx E cc own rm) {x y : Int32} (d : decode cc pc = .ok (.ixor, 1) ∧ pc + 1 = pc')  (k : J E cells slots pc' lv (vI (x ^^^ y) :: st) S ad) : J E cells slots pc lv (vI y :: vI x :: st) S ad := by
  obtain ⟨d, rfl⟩ := d
  intro hw H locs ls hP hD hS hl
  exact lv_ixor K.1 K.2.1 d (k hw H locs ls hP hD hS hl)
theorem j_ineg (K : Kx E cc own rm) {x : Int32} (d : decode cc pc = .ok (.ineg, 1) ∧ pc + 1 = pc')  (k : J E cells slots pc' lv (vI (-x) :: st) S ad) : J E cells slots pc lv (vI x :: st) S ad := by
  obtain ⟨d, rfl⟩ := d
  intro hw H locs ls hP hD hS hl
  exact lv_ineg K.1 K.2.1 d (k hw H locs ls hP hD hS hl)
theorem j_idiv (K : Kx E cc own rm) {x y : Int32} (d : decode cc pc = .ok (.idiv, 1) ∧ pc + 1 = pc') (hy : ¬ y = 0) (k : J E cells slots pc' lv (vI (x / y) :: st) S ad) : J E cells slots pc lv (vI y :: vI x :: st) S ad := by
  obtain ⟨d, rfl⟩ := d
  intro hw H locs ls hP hD hS hl
  exact lv_idiv K.1 K.2.1 d hy (k hw H locs ls hP hD hS hl)
theorem j_irem (K : Kx E cc own rm) {x y : Int32} (d : decode cc pc = .ok (.irem, 1) ∧ pc + 1 = pc') (hy : ¬ y = 0) (k : J E cells slots pc' lv (vI (x - x / y * y) :: st) S ad) : J E cells slots pc lv (vI y :: vI x :: st) S ad := by
  obtain ⟨d, rfl⟩ := d
  intro hw H locs ls hP hD hS hl
  exact lv_irem K.1 K.2.1 d hy (k hw H locs ls hP hD hS hl)
theorem j_ishl (K : Kx E cc own rm) {x y : Int32} (d : decode cc pc = .ok (.ishl, 1) ∧ pc + 1 = pc')  (k : J E cells slots pc' lv (vI (x <<< (y &&& 31)) :: st) S ad) : J E cells slots pc lv (vI y :: vI x :: st) S ad := by
  obtain ⟨d, rfl⟩ := d
  intro hw H locs ls hP hD hS hl
  exact lv_ishl K.1 K.2.1 d (k hw H locs ls hP hD hS hl)
theorem j_ishr (K : Kx E cc own rm) {x y : Int32} (d : decode cc pc = .ok (.ishr, 1) ∧ pc + 1 = pc')  (k : J E cells slots pc' lv (vI (x >>> (y &&& 31)) :: st) S ad) : J E cells slots pc lv (vI y :: vI x :: st) S ad := by
  obtain ⟨d, rfl⟩ := d
  intro hw H locs ls hP hD hS hl
  exact lv_ishr K.1 K.2.1 d (k hw H locs ls hP hD hS hl)
theorem j_iushr (K : Kx E cc own rm) {x y : Int32} (d : decode cc pc = .ok (.iushr, 1) ∧ pc + 1 = pc')  (k : J E cells slots pc' lv (vI (x.toUInt32 >>> (y.toUInt32 &&& Int32.toUInt32 31)).toInt32 :: st) S ad) : J E cells slots pc lv (vI y :: vI x :: st) S ad := by
  obtain ⟨d, rfl⟩ := d
  intro hw H locs ls hP hD hS hl
  exact lv_iushr K.1 K.2.1 d rfl (k hw H locs ls hP hD hS hl)
theorem j_i2l (K : Kx E cc own rm) {x : Int32} (d : decode cc pc = .ok (.i2l, 1) ∧ pc + 1 = pc')  (k : J E cells slots pc' lv (vJ x.toInt64 :: st) S ad) : J E cells slots pc lv (vI x :: st) S ad := by
  obtain ⟨d, rfl⟩ := d
  intro hw H locs ls hP hD hS hl
  exact lv_i2l K.1 K.2.1 d rfl (k hw H locs ls hP hD hS hl)
theorem j_l2i (K : Kx E cc own rm) {x : Int64} (d : decode cc pc = .ok (.l2i, 1) ∧ pc + 1 = pc')  (k : J E cells slots pc' lv (vI x.toInt32 :: st) S ad) : J E cells slots pc lv (vJ x :: st) S ad := by
  obtain ⟨d, rfl⟩ := d
  intro hw H locs ls hP hD hS hl
  exact lv_l2i K.1 K.2.1 d rfl (k hw H locs ls hP hD hS hl)
theorem j_i2b (K : Kx E cc own rm) {x : Int32} (d : decode cc pc = .ok (.i2b, 1) ∧ pc + 1 = pc')  (k : J E cells slots pc' lv (vI x.toInt8.toInt32 :: st) S ad) : J E cells slots pc lv (vI x :: st) S ad := by
  obtain ⟨d, rfl⟩ := d
  intro hw H locs ls hP hD hS hl
  exact lv_i2b K.1 K.2.1 d rfl (k hw H locs ls hP hD hS hl)
theorem j_i2s (K : Kx E cc own rm) {x : Int32} (d : decode cc pc = .ok (.i2s, 1) ∧ pc + 1 = pc')  (k : J E cells slots pc' lv (vI x.toInt16.toInt32 :: st) S ad) : J E cells slots pc lv (vI x :: st) S ad := by
  obtain ⟨d, rfl⟩ := d
  intro hw H locs ls hP hD hS hl
  exact lv_i2s K.1 K.2.1 d rfl (k hw H locs ls hP hD hS hl)
theorem j_ladd (K : Kx E cc own rm) {x y : Int64} (d : decode cc pc = .ok (.ladd, 1) ∧ pc + 1 = pc')  (k : J E cells slots pc' lv (vJ (x + y) :: st) S ad) : J E cells slots pc lv (vJ y :: vJ x :: st) S ad := by
  obtain ⟨d, rfl⟩ := d
  intro hw H locs ls hP hD hS hl
  exact lv_ladd K.1 K.2.1 d (k hw H locs ls hP hD hS hl)
theorem j_lsub (K : Kx E cc own rm) {x y : Int64} (d : decode cc pc = .ok (.lsub, 1) ∧ pc + 1 = pc')  (k : J E cells slots pc' lv (vJ (x - y) :: st) S ad) : J E cells slots pc lv (vJ y :: vJ x :: st) S ad := by
  obtain ⟨d, rfl⟩ := d
  intro hw H locs ls hP hD hS hl
  exact lv_lsub K.1 K.2.1 d (k hw H locs ls hP hD hS hl)
theorem j_lmul (K : Kx E cc own rm) {x y : Int64} (d : decode cc pc = .ok (.lmul, 1) ∧ pc + 1 = pc')  (k : J E cells slots pc' lv (vJ (x * y) :: st) S ad) : J E cells slots pc lv (vJ y :: vJ x :: st) S ad := by
  obtain ⟨d, rfl⟩ := d
  intro hw H locs ls hP hD hS hl
  exact lv_lmul K.1 K.2.1 d (k hw H locs ls hP hD hS hl)
theorem j_ldiv (K : Kx E cc own rm) {x y : Int64} (d : decode cc pc = .ok (.ldiv, 1) ∧ pc + 1 = pc') (hy : ¬ y = 0) (k : J E cells slots pc' lv (vJ (x / y) :: st) S ad) : J E cells slots pc lv (vJ y :: vJ x :: st) S ad := by
  obtain ⟨d, rfl⟩ := d
  intro hw H locs ls hP hD hS hl
  exact lv_ldiv K.1 K.2.1 d hy (k hw H locs ls hP hD hS hl)
theorem j_lrem (K : Kx E cc own rm) {x y : Int64} (d : decode cc pc = .ok (.lrem, 1) ∧ pc + 1 = pc') (hy : ¬ y = 0) (k : J E cells slots pc' lv (vJ (x - x / y * y) :: st) S ad) : J E cells slots pc lv (vJ y :: vJ x :: st) S ad := by
  obtain ⟨d, rfl⟩ := d
  intro hw H locs ls hP hD hS hl
  exact lv_lrem K.1 K.2.1 d hy (k hw H locs ls hP hD hS hl)
theorem j_lcmp (K : Kx E cc own rm) {x y : Int64} (d : decode cc pc = .ok (.lcmp, 1) ∧ pc + 1 = pc')  (k : J E cells slots pc' lv (vI (lg_cmp x y) :: st) S ad) : J E cells slots pc lv (vJ y :: vJ x :: st) S ad := by
  obtain ⟨d, rfl⟩ := d
  intro hw H locs ls hP hD hS hl
  exact W.lcmp K.1 K.2.1 d (k hw H locs ls hP hD hS hl)
theorem j_dup (K : Kx E cc own rm) {v : PV} (d : decode cc pc = .ok (.dup, 1) ∧ pc + 1 = pc') (hv : pcat v = 1) (k : J E cells slots pc' lv (v :: v :: st) S ad) : J E cells slots pc lv (v :: st) S ad := by
  obtain ⟨d, rfl⟩ := d
  intro hw H locs ls hP hD hS hl
  exact lv_dup K.1 K.2.1 d ((cv_cat _ _ _).trans hv) (k hw H locs ls hP hD hS hl)
theorem j_dup_x1 (K : Kx E cc own rm) {v w : PV} (d : decode cc pc = .ok (.dup_x1, 1) ∧ pc + 1 = pc') (hv : pcat v = 1) (hw2 : pcat w = 1) (k : J E cells slots pc' lv (v :: w :: v :: st) S ad) : J E cells slots pc lv (v :: w :: st) S ad := by
  obtain ⟨d, rfl⟩ := d
  intro hw H locs ls hP hD hS hl
  exact lv_dup_x1 K.1 K.2.1 d ((cv_cat _ _ _).trans hv) ((cv_cat _ _ _).trans hw2) (k hw H locs ls hP hD hS hl)
theorem j_dup2 (K : Kx E cc own rm) {v w : PV} (d : decode cc pc = .ok (.dup2, 1) ∧ pc + 1 = pc') (hv : pcat v = 1) (hw2 : pcat w = 1) (k : J E cells slots pc' lv (v :: w :: v :: w :: st) S ad) : J E cells slots pc lv (v :: w :: st) S ad := by
  obtain ⟨d, rfl⟩ := d
  intro hw H locs ls hP hD hS hl
  exact lv_dup2_11 K.1 K.2.1 d ((cv_cat _ _ _).trans hv) ((cv_cat _ _ _).trans hw2) (k hw H locs ls hP hD hS hl)
theorem j_pop (K : Kx E cc own rm) {v : PV} (d : decode cc pc = .ok (.pop, 1) ∧ pc + 1 = pc') (hv : pcat v = 1) (k : J E cells slots pc' lv (st) S ad) : J E cells slots pc lv (v :: st) S ad := by
  obtain ⟨d, rfl⟩ := d
  intro hw H locs ls hP hD hS hl
  exact lv_pop K.1 K.2.1 d ((cv_cat _ _ _).trans hv) (k hw H locs ls hP hD hS hl)
theorem j_iload_n (K : Kx E cc own rm) {k : Fin 4} {i : Nat} {x : Int32} (d : decode cc pc = .ok (.iload_n k, 1) ∧ pc + 1 = pc') (hi : (k : Nat) = i) (q : Nat) (hq : lv[q]? = some (i, vI x)) (k : J E cells slots pc' lv (vI x :: st) S ad) : J E cells slots pc lv (st) S ad := by
  obtain ⟨d, rfl⟩ := d
  intro hw H locs ls hP hD hS hl
  exact lv_iload_n K.1 K.2.1 d hi (lv_at hl q (mpl_get hq)) (k hw H locs ls hP hD hS hl)
theorem j_iload (K : Kx E cc own rm) {i : Nat} {x : Int32} (d : decode cc pc = .ok (.iload i, 2) ∧ pc + 2 = pc') (q : Nat) (hq : lv[q]? = some (i, vI x)) (k : J E cells slots pc' lv (vI x :: st) S ad) : J E cells slots pc lv (st) S ad := by
  obtain ⟨d, rfl⟩ := d
  intro hw H locs ls hP hD hS hl
  exact lv_iload K.1 K.2.1 d (lv_at hl q (mpl_get hq)) (k hw H locs ls hP hD hS hl)
theorem j_lload_n (K : Kx E cc own rm) {k : Fin 4} {i : Nat} {x : Int64} (d : decode cc pc = .ok (.lload_n k, 1) ∧ pc + 1 = pc') (hi : (k : Nat) = i) (q : Nat) (hq : lv[q]? = some (i, vJ x)) (k : J E cells slots pc' lv (vJ x :: st) S ad) : J E cells slots pc lv (st) S ad := by
  obtain ⟨d, rfl⟩ := d
  intro hw H locs ls hP hD hS hl
  exact lv_lload_n K.1 K.2.1 d hi (lv_at hl q (mpl_get hq)) (k hw H locs ls hP hD hS hl)
theorem j_lload (K : Kx E cc own rm) {i : Nat} {x : Int64} (d : decode cc pc = .ok (.lload i, 2) ∧ pc + 2 = pc') (q : Nat) (hq : lv[q]? = some (i, vJ x)) (k : J E cells slots pc' lv (vJ x :: st) S ad) : J E cells slots pc lv (st) S ad := by
  obtain ⟨d, rfl⟩ := d
  intro hw H locs ls hP hD hS hl
  exact lv_lload K.1 K.2.1 d (lv_at hl q (mpl_get hq)) (k hw H locs ls hP hD hS hl)
theorem j_aload_n (K : Kx E cc own rm) {k : Fin 4} {i : Nat} {r : Option Nat} (d : decode cc pc = .ok (.aload_n k, 1) ∧ pc + 1 = pc') (hi : (k : Nat) = i) (q : Nat) (hq : lv[q]? = some (i, vR r)) (k : J E cells slots pc' lv (vR r :: st) S ad) : J E cells slots pc lv st S ad := by
  obtain ⟨d, rfl⟩ := d
  intro hw H locs ls hP hD hS hl
  have h0 := lv_at hl q (mpl_get hq)
  have k0 := k hw H locs ls hP hD hS hl
  cases r with
  | none => exact lv_aload_nN K.1 K.2.1 d hi h0 k0
  | some a => exact lv_aload_n K.1 K.2.1 d hi h0 k0
theorem j_aload_nK (K : Kx E cc own rm) {k : Fin 4} {i : Nat} {r : Nat} (d : decode cc pc = .ok (.aload_n k, 1) ∧ pc + 1 = pc') (hi : (k : Nat) = i) (q : Nat) (hq : lv[q]? = some (i, vK r)) (k : J E cells slots pc' lv (vK r :: st) S ad) : J E cells slots pc lv st S ad := by
  obtain ⟨d, rfl⟩ := d
  intro hw H locs ls hP hD hS hl
  exact lv_aload_n K.1 K.2.1 d hi (lv_at hl q (mpl_get hq)) (k hw H locs ls hP hD hS hl)
theorem j_aload (K : Kx E cc own rm) {i : Nat} {r : Option Nat} (d : decode cc pc = .ok (.aload i, 2) ∧ pc + 2 = pc')  (q : Nat) (hq : lv[q]? = some (i, vR r)) (k : J E cells slots pc' lv (vR r :: st) S ad) : J E cells slots pc lv st S ad := by
  obtain ⟨d, rfl⟩ := d
  intro hw H locs ls hP hD hS hl
  have h0 := lv_at hl q (mpl_get hq)
  have k0 := k hw H locs ls hP hD hS hl
  cases r with
  | none => exact lv_aloadN K.1 K.2.1 d h0 k0
  | some a => exact lv_aload K.1 K.2.1 d h0 k0
theorem j_aloadK (K : Kx E cc own rm) {i : Nat} {r : Nat} (d : decode cc pc = .ok (.aload i, 2) ∧ pc + 2 = pc')  (q : Nat) (hq : lv[q]? = some (i, vK r)) (k : J E cells slots pc' lv (vK r :: st) S ad) : J E cells slots pc lv st S ad := by
  obtain ⟨d, rfl⟩ := d
  intro hw H locs ls hP hD hS hl
  exact lv_aload K.1 K.2.1 d (lv_at hl q (mpl_get hq)) (k hw H locs ls hP hD hS hl)
theorem j_istore_n (K : Kx E cc own rm) {k : Fin 4} {i : Nat} {x : Int32} {nl : Nat} (d : decode cc pc = .ok (.istore_n k, 1) ∧ pc + 1 = pc') (hi : (k : Nat) = i) (hN : eN E = nl) (hn : i < nl) (hl' : lst lv i (vI x) = lv') (k : J E cells slots pc' lv' st S ad) : J E cells slots pc lv (vI x :: st) S ad := by
  obtain ⟨d, rfl⟩ := d
  subst hN
  intro hw H locs ls hP hD hS hl
  exact lv_istore_n K.1 K.2.1 d hi hl hn (mpl_lst _ _ lv i (vI x)) (fun ls' h' => k hw H locs ls' hP hD hS (by rw [← hl']; exact h'))
theorem j_istore (K : Kx E cc own rm) {i : Nat} {x : Int32} {nl : Nat} (d : decode cc pc = .ok (.istore i, 2) ∧ pc + 2 = pc')  (hN : eN E = nl) (hn : i < nl) (hl' : lst lv i (vI x) = lv') (k : J E cells slots pc' lv' st S ad) : J E cells slots pc lv (vI x :: st) S ad := by
  obtain ⟨d, rfl⟩ := d
  subst hN
  intro hw H locs ls hP hD hS hl
  exact lv_istore K.1 K.2.1 d hl hn (mpl_lst _ _ lv i (vI x)) (fun ls' h' => k hw H locs ls' hP hD hS (by rw [← hl']; exact h'))
theorem j_lstore_n (K : Kx E cc own rm) {k : Fin 4} {i : Nat} {x : Int64} {nl : Nat} (d : decode cc pc = .ok (.lstore_n k, 1) ∧ pc + 1 = pc') (hi : (k : Nat) = i) (hN : eN E = nl) (hn : i + 1 < nl) (hl' : lst2 lv i (vJ x) = lv') (k : J E cells slots pc' lv' st S ad) : J E cells slots pc lv (vJ x :: st) S ad := by
  obtain ⟨d, rfl⟩ := d
  subst hN
  intro hw H locs ls hP hD hS hl
  exact lv_lstore_n K.1 K.2.1 d hi hl hn (mpl_lst2 _ _ lv i (vJ x)) (fun ls' h' => k hw H locs ls' hP hD hS (by rw [← hl']; exact h'))
theorem j_lstore (K : Kx E cc own rm) {i : Nat} {x : Int64} {nl : Nat} (d : decode cc pc = .ok (.lstore i, 2) ∧ pc + 2 = pc')  (hN : eN E = nl) (hn : i + 1 < nl) (hl' : lst2 lv i (vJ x) = lv') (k : J E cells slots pc' lv' st S ad) : J E cells slots pc lv (vJ x :: st) S ad := by
  obtain ⟨d, rfl⟩ := d
  subst hN
  intro hw H locs ls hP hD hS hl
  exact lv_lstore K.1 K.2.1 d hl hn (mpl_lst2 _ _ lv i (vJ x)) (fun ls' h' => k hw H locs ls' hP hD hS (by rw [← hl']; exact h'))
theorem j_astore_n (K : Kx E cc own rm) {k : Fin 4} {i : Nat} {r : Option Nat} {nl : Nat} (d : decode cc pc = .ok (.astore_n k, 1) ∧ pc + 1 = pc') (hi : (k : Nat) = i) (hN : eN E = nl) (hn : i < nl) (hl' : lst lv i (vR r) = lv') (k : J E cells slots pc' lv' st S ad) : J E cells slots pc lv (vR r :: st) S ad := by
  obtain ⟨d, rfl⟩ := d
  subst hN
  intro hw H locs ls hP hD hS hl
  cases r with
  | none => exact lv_astore_nN K.1 K.2.1 d hi hl hn (mpl_lst _ _ lv i (vR none)) (fun ls' h' => k hw H locs ls' hP hD hS (by rw [← hl']; exact h'))
  | some a => exact lv_astore_n K.1 K.2.1 d hi hl hn (mpl_lst _ _ lv i (vR (some a))) (fun ls' h' => k hw H locs ls' hP hD hS (by rw [← hl']; exact h'))
theorem j_astore (K : Kx E cc own rm) {i : Nat} {r : Option Nat} {nl : Nat} (d : decode cc pc = .ok (.astore i, 2) ∧ pc + 2 = pc')  (hN : eN E = nl) (hn : i < nl) (hl' : lst lv i (vR r) = lv') (k : J E cells slots pc' lv' st S ad) : J E cells slots pc lv (vR r :: st) S ad := by
  obtain ⟨d, rfl⟩ := d
  subst hN
  intro hw H locs ls hP hD hS hl
  cases r with
  | none => exact lv_astoreN K.1 K.2.1 d hl hn (mpl_lst _ _ lv i (vR none)) (fun ls' h' => k hw H locs ls' hP hD hS (by rw [← hl']; exact h'))
  | some a => exact lv_astore K.1 K.2.1 d hl hn (mpl_lst _ _ lv i (vR (some a))) (fun ls' h' => k hw H locs ls' hP hD hS (by rw [← hl']; exact h'))
theorem j_iinc (K : Kx E cc own rm) {i q nl : Nat} {n : Int} {x v : Int32} (d : decode cc pc = .ok (.iinc i n, 3) ∧ pc + 3 = pc') (hq : lv[q]? = some (i, vI x)) (hv : x + Int32.ofInt n = v) (hN : eN E = nl) (hn : i < nl) (hl' : lst lv i (vI v) = lv') (k : J E cells slots pc' lv' st S ad) : J E cells slots pc lv st S ad := by
  obtain ⟨d, rfl⟩ := d
  subst hN
  intro hw H locs ls hP hD hS hl
  exact lv_iinc K.1 K.2.1 d hl (mpl_get hq) hv hn (mpl_lst _ _ lv i (vI v)) (fun ls' h' => k hw H locs ls' hP hD hS (by rw [← hl']; exact h'))
theorem j_goto (K : Kx E cc own rm) {off : Int} {tgt : Nat} (d : decode cc pc = .ok (.goto off, 3) ∧ (pc : Int) + off = (tgt : Int)) (k : J E cells slots tgt lv st S ad) : J E cells slots pc lv st S ad := by
  obtain ⟨d, ht⟩ := d
  intro hw H locs ls hP hD hS hl
  exact lv_goto K.1 K.2.1 d ht (k hw H locs ls hP hD hS hl)
theorem j_icmp_eq (K : Kx E cc own rm) {x y : Int32} {off : Int} {tgt : Nat} (d : decode cc pc = .ok (.if_icmp .eq off, 3) ∧ pc + 3 = pc' ∧ (pc : Int) + off = (tgt : Int)) (kt : x = y → J E cells slots tgt lv st S ad) (kf : ¬ x = y → J E cells slots pc' lv st S ad) : J E cells slots pc lv (vI y :: vI x :: st) S ad := by
  obtain ⟨d, rfl, ht⟩ := d
  intro hw H locs ls hP hD hS hl
  exact lv_icmp_eq K.1 K.2.1 d ht (fun c => kt c hw H locs ls hP hD hS hl) (fun c => kf c hw H locs ls hP hD hS hl)
theorem j_if_eq (K : Kx E cc own rm) {x : Int32} {off : Int} {tgt : Nat} (d : decode cc pc = .ok (.ifCond .eq off, 3) ∧ pc + 3 = pc' ∧ (pc : Int) + off = (tgt : Int)) (kt : x = 0 → J E cells slots tgt lv st S ad) (kf : ¬ x = 0 → J E cells slots pc' lv st S ad) : J E cells slots pc lv (vI x :: st) S ad := by
  obtain ⟨d, rfl, ht⟩ := d
  intro hw H locs ls hP hD hS hl
  exact lv_if_eq K.1 K.2.1 d ht (fun c => kt c hw H locs ls hP hD hS hl) (fun c => kf c hw H locs ls hP hD hS hl)
theorem j_icmp_ne (K : Kx E cc own rm) {x y : Int32} {off : Int} {tgt : Nat} (d : decode cc pc = .ok (.if_icmp .ne off, 3) ∧ pc + 3 = pc' ∧ (pc : Int) + off = (tgt : Int)) (kt : ¬ x = y → J E cells slots tgt lv st S ad) (kf : x = y → J E cells slots pc' lv st S ad) : J E cells slots pc lv (vI y :: vI x :: st) S ad := by
  obtain ⟨d, rfl, ht⟩ := d
  intro hw H locs ls hP hD hS hl
  exact lv_icmp_ne K.1 K.2.1 d ht (fun c => kt c hw H locs ls hP hD hS hl) (fun c => kf c hw H locs ls hP hD hS hl)
theorem j_if_ne (K : Kx E cc own rm) {x : Int32} {off : Int} {tgt : Nat} (d : decode cc pc = .ok (.ifCond .ne off, 3) ∧ pc + 3 = pc' ∧ (pc : Int) + off = (tgt : Int)) (kt : ¬ x = 0 → J E cells slots tgt lv st S ad) (kf : x = 0 → J E cells slots pc' lv st S ad) : J E cells slots pc lv (vI x :: st) S ad := by
  obtain ⟨d, rfl, ht⟩ := d
  intro hw H locs ls hP hD hS hl
  exact lv_if_ne K.1 K.2.1 d ht (fun c => kt c hw H locs ls hP hD hS hl) (fun c => kf c hw H locs ls hP hD hS hl)
theorem j_icmp_lt (K : Kx E cc own rm) {x y : Int32} {off : Int} {tgt : Nat} (d : decode cc pc = .ok (.if_icmp .lt off, 3) ∧ pc + 3 = pc' ∧ (pc : Int) + off = (tgt : Int)) (kt : x < y → J E cells slots tgt lv st S ad) (kf : ¬ x < y → J E cells slots pc' lv st S ad) : J E cells slots pc lv (vI y :: vI x :: st) S ad := by
  obtain ⟨d, rfl, ht⟩ := d
  intro hw H locs ls hP hD hS hl
  exact lv_icmp_lt K.1 K.2.1 d ht (fun c => kt c hw H locs ls hP hD hS hl) (fun c => kf c hw H locs ls hP hD hS hl)
theorem j_if_lt (K : Kx E cc own rm) {x : Int32} {off : Int} {tgt : Nat} (d : decode cc pc = .ok (.ifCond .lt off, 3) ∧ pc + 3 = pc' ∧ (pc : Int) + off = (tgt : Int)) (kt : x < 0 → J E cells slots tgt lv st S ad) (kf : ¬ x < 0 → J E cells slots pc' lv st S ad) : J E cells slots pc lv (vI x :: st) S ad := by
  obtain ⟨d, rfl, ht⟩ := d
  intro hw H locs ls hP hD hS hl
  exact lv_if_lt K.1 K.2.1 d ht (fun c => kt c hw H locs ls hP hD hS hl) (fun c => kf c hw H locs ls hP hD hS hl)
theorem j_icmp_ge (K : Kx E cc own rm) {x y : Int32} {off : Int} {tgt : Nat} (d : decode cc pc = .ok (.if_icmp .ge off, 3) ∧ pc + 3 = pc' ∧ (pc : Int) + off = (tgt : Int)) (kt : y ≤ x → J E cells slots tgt lv st S ad) (kf : ¬ y ≤ x → J E cells slots pc' lv st S ad) : J E cells slots pc lv (vI y :: vI x :: st) S ad := by
  obtain ⟨d, rfl, ht⟩ := d
  intro hw H locs ls hP hD hS hl
  exact lv_icmp_ge K.1 K.2.1 d ht (fun c => kt c hw H locs ls hP hD hS hl) (fun c => kf c hw H locs ls hP hD hS hl)
theorem j_if_ge (K : Kx E cc own rm) {x : Int32} {off : Int} {tgt : Nat} (d : decode cc pc = .ok (.ifCond .ge off, 3) ∧ pc + 3 = pc' ∧ (pc : Int) + off = (tgt : Int)) (kt : 0 ≤ x → J E cells slots tgt lv st S ad) (kf : ¬ 0 ≤ x → J E cells slots pc' lv st S ad) : J E cells slots pc lv (vI x :: st) S ad := by
  obtain ⟨d, rfl, ht⟩ := d
  intro hw H locs ls hP hD hS hl
  exact lv_if_ge K.1 K.2.1 d ht (fun c => kt c hw H locs ls hP hD hS hl) (fun c => kf c hw H locs ls hP hD hS hl)
theorem j_icmp_gt (K : Kx E cc own rm) {x y : Int32} {off : Int} {tgt : Nat} (d : decode cc pc = .ok (.if_icmp .gt off, 3) ∧ pc + 3 = pc' ∧ (pc : Int) + off = (tgt : Int)) (kt : y < x → J E cells slots tgt lv st S ad) (kf : ¬ y < x → J E cells slots pc' lv st S ad) : J E cells slots pc lv (vI y :: vI x :: st) S ad := by
  obtain ⟨d, rfl, ht⟩ := d
  intro hw H locs ls hP hD hS hl
  exact lv_icmp_gt K.1 K.2.1 d ht (fun c => kt c hw H locs ls hP hD hS hl) (fun c => kf c hw H locs ls hP hD hS hl)
theorem j_if_gt (K : Kx E cc own rm) {x : Int32} {off : Int} {tgt : Nat} (d : decode cc pc = .ok (.ifCond .gt off, 3) ∧ pc + 3 = pc' ∧ (pc : Int) + off = (tgt : Int)) (kt : 0 < x → J E cells slots tgt lv st S ad) (kf : ¬ 0 < x → J E cells slots pc' lv st S ad) : J E cells slots pc lv (vI x :: st) S ad := by
  obtain ⟨d, rfl, ht⟩ := d
  intro hw H locs ls hP hD hS hl
  exact lv_if_gt K.1 K.2.1 d ht (fun c => kt c hw H locs ls hP hD hS hl) (fun c => kf c hw H locs ls hP hD hS hl)
theorem j_icmp_le (K : Kx E cc own rm) {x y : Int32} {off : Int} {tgt : Nat} (d : decode cc pc = .ok (.if_icmp .le off, 3) ∧ pc + 3 = pc' ∧ (pc : Int) + off = (tgt : Int)) (kt : x ≤ y → J E cells slots tgt lv st S ad) (kf : ¬ x ≤ y → J E cells slots pc' lv st S ad) : J E cells slots pc lv (vI y :: vI x :: st) S ad := by
  obtain ⟨d, rfl, ht⟩ := d
  intro hw H locs ls hP hD hS hl
  exact lv_icmp_le K.1 K.2.1 d ht (fun c => kt c hw H locs ls hP hD hS hl) (fun c => kf c hw H locs ls hP hD hS hl)
theorem j_if_le (K : Kx E cc own rm) {x : Int32} {off : Int} {tgt : Nat} (d : decode cc pc = .ok (.ifCond .le off, 3) ∧ pc + 3 = pc' ∧ (pc : Int) + off = (tgt : Int)) (kt : x ≤ 0 → J E cells slots tgt lv st S ad) (kf : ¬ x ≤ 0 → J E cells slots pc' lv st S ad) : J E cells slots pc lv (vI x :: st) S ad := by
  obtain ⟨d, rfl, ht⟩ := d
  intro hw H locs ls hP hD hS hl
  exact lv_if_le K.1 K.2.1 d ht (fun c => kt c hw H locs ls hP hD hS hl) (fun c => kf c hw H locs ls hP hD hS hl)
theorem j_ifnull (K : Kx E cc own rm) {r : Option Nat} {off : Int} {tgt : Nat} (d : decode cc pc = .ok (.ifnull off, 3) ∧ pc + 3 = pc' ∧ (pc : Int) + off = (tgt : Int)) (kt : r = none → J E cells slots tgt lv st S ad) (kf : ¬ r = none → J E cells slots pc' lv st S ad) : J E cells slots pc lv (vR r :: st) S ad := by
  obtain ⟨d, rfl, ht⟩ := d
  intro hw H locs ls hP hD hS hl
  cases r with
  | none => exact lv_ifnullN K.1 K.2.1 d ht (kt rfl hw H locs ls hP hD hS hl)
  | some a => exact lv_ifnull K.1 K.2.1 d (kf (fun q => by cases q) hw H locs ls hP hD hS hl)
theorem j_ifnonnull (K : Kx E cc own rm) {r : Option Nat} {off : Int} {tgt : Nat} (d : decode cc pc = .ok (.ifnonnull off, 3) ∧ pc + 3 = pc' ∧ (pc : Int) + off = (tgt : Int)) (kt : ¬ r = none → J E cells slots tgt lv st S ad) (kf : r = none → J E cells slots pc' lv st S ad) : J E cells slots pc lv (vR r :: st) S ad := by
  obtain ⟨d, rfl, ht⟩ := d
  intro hw H locs ls hP hD hS hl
  cases r with
  | none => exact lv_ifnonnullN K.1 K.2.1 d (kf rfl hw H locs ls hP hD hS hl)
  | some a => exact lv_ifnonnull K.1 K.2.1 d ht (kt (fun q => by cases q) hw H locs ls hP hD hS hl)
theorem j_tin (K : Kx E cc own rm) {dflt lo hi off : Int} {offs : Array Int} {len tgt : Nat} {x : Int32} (d : decode cc pc = .ok (.tableswitch dflt lo hi offs, len)) (h1 : ¬ x.toInt < lo) (h2 : ¬ hi < x.toInt) (ho : offs[(x.toInt - lo).toNat]? = some off) (ht : (pc : Int) + off = (tgt : Int)) (k : J E cells slots tgt lv st S ad) : J E cells slots pc lv (vI x :: st) S ad := by
  intro hw H locs ls hP hD hS hl
  exact lv_tableIn K.1 K.2.1 d h1 h2 ho ht (k hw H locs ls hP hD hS hl)
theorem j_tout (K : Kx E cc own rm) {dflt lo hi : Int} {offs : Array Int} {len tgt : Nat} {x : Int32} (d : decode cc pc = .ok (.tableswitch dflt lo hi offs, len)) (h : x.toInt < lo ∨ hi < x.toInt) (ht : (pc : Int) + dflt = (tgt : Int)) (k : J E cells slots tgt lv st S ad) : J E cells slots pc lv (vI x :: st) S ad := by
  intro hw H locs ls hP hD hS hl
  exact lv_tableOut K.1 K.2.1 d h ht (k hw H locs ls hP hD hS hl)
theorem j_look (K : Kx E cc own rm) {dflt off : Int} {ps : Array (Int × Int)} {len tgt : Nat} {x : Int32} (d : decode cc pc = .ok (.lookupswitch dflt ps, len)) (hp : (ps.toList.zip (ps.toList.drop 1)).all (fun (a, next) => a.1 < next.1) = true) (ho : Op.lookupswitch.offset ps.toList dflt x.toInt = off) (ht : (pc : Int) + off = (tgt : Int)) (k : J E cells slots tgt lv st S ad) : J E cells slots pc lv (vI x :: st) S ad := by
  intro hw H locs ls hP hD hS hl
  exact lv_lookup K.1 K.2.1 d hp ho ht (k hw H locs ls hP hD hS hl)
/-! fields and rows -/
theorem j_gI (K : Kx E cc own rm) {i t j N : Nat} {C ref nm ds : String} {T : u_T} {r : Option Nat} {v : Int32} (d : decode cc pc = .ok (.getfield i, 3) ∧ pc + 3 = pc') (hcl : zcl[t]? = some (C, T, N)) (hj : j < N) (hT : T j = (C, nm, ds, (T j).2.2.2)) (hrf : C = ref) (hin : ∀ w ∈ u_ws C T N, w ∈ lw_g) (ht : t < 7) (hk : (zk t)[j]? = some 0) (hlk : (Cond.fieldLink own i ref nm ds) ∈ lw_g) (e : gI S r t j = some v) (k : J E cells slots pc' lv (vI v :: st) S ad) : J E cells slots pc lv (vR r :: st) S ad := by
  obtain ⟨d, rfl⟩ := d
  obtain ⟨o, rfl, ho, hs, rfl⟩ := gI_some e
  subst hrf
  intro hw H locs ls hP hD hS hl
  have hg := (Wl_get (g := eG E) (ad := ad) ho).trans (by rw [zE_obj hs ht])
  exact va_get (q0 := o) (k := j) (index := i) (ref := C) K.1 K.2.1 K.2.2.2.2.1 hin K.2.2.2.1 K.2.2.2.2.2.1 hP hg hcl hj (K.2.2.2.2.1 _ (by rw [hT]; exact hlk)) (fun x h => by rw [hT] at h ⊢; exact h) (v := .int (S.2.2.1 o j)) (by rw [zfl_get _ _ (zk t) 0 j 0 hk, if_pos rfl, Nat.zero_add]) d (k hw H locs ls hP hD hS hl)
theorem j_gR (K : Kx E cc own rm) {i t j N : Nat} {C ref nm ds : String} {T : u_T} {r v : Option Nat} (d : decode cc pc = .ok (.getfield i, 3) ∧ pc + 3 = pc') (hcl : zcl[t]? = some (C, T, N)) (hj : j < N) (hT : T j = (C, nm, ds, (T j).2.2.2)) (hrf : C = ref) (hin : ∀ w ∈ u_ws C T N, w ∈ lw_g) (ht : t < 7) (hk : (zk t)[j]? = some 1) (hlk : (Cond.fieldLink own i ref nm ds) ∈ lw_g) (e : gR S r t j = some v) (k : J E cells slots pc' lv (vR v :: st) S ad) : J E cells slots pc lv (vR r :: st) S ad := by
  obtain ⟨d, rfl⟩ := d
  obtain ⟨o, rfl, ho, hs, rfl⟩ := gR_some e
  subst hrf
  intro hw H locs ls hP hD hS hl
  have hg := (Wl_get (g := eG E) (ad := ad) ho).trans (by rw [zE_obj hs ht])
  exact va_get (q0 := o) (k := j) (index := i) (ref := C) K.1 K.2.1 K.2.2.2.2.1 hin K.2.2.2.1 K.2.2.2.2.2.1 hP hg hcl hj (K.2.2.2.2.1 _ (by rw [hT]; exact hlk)) (fun x h => by rw [hT] at h ⊢; exact h) (v := va_rf ((S.2.2.2 o j).map ad)) (by rw [zfl_get _ _ (zk t) 0 j 1 hk, if_neg (by decide), Nat.zero_add]) d (k hw H locs ls hP hD hS hl)
theorem zW_uI {o j : Nat} {v : Int32} (h : zW S) : zW (uI S o j v) := h
theorem zW_uA {o : Nat} {f : Nat → Int32} (h : zW S) : zW (uA S o f) := h
theorem zW_uR {o j : Nat} {v : Option Nat} (h : zW S) (hv : okR S v) : zW (uR S o j v) := by
  intro a b r e
  simp only [uR, up2] at e
  split at e
  · subst e
    exact hv
  · exact h a b r e
theorem zE_uI {g : Gt} {o j t : Nat} {v : Int32} (hs : (S.2.1 o).1 = t) (ht : t < 7) (hk : (zk t)[j]? = some 0) : Wl g ad (uI S o j v) = Wl g ad (uI S o j v) ∧ (∀ a, a ≠ o → zE g ad (uI S o j v) a = zE g ad S a) ∧ zE g ad (uI S o j v) o = .inr (t, (zfl (fun j => .int (S.2.2.1 o j)) (fun j => va_rf ((S.2.2.2 o j).map ad)) (zk t) 0).set j (.int v)) := by
  refine ⟨rfl, fun a ha => zE_congr rfl (fun b => by simp [uI, up2, ha]) (fun b => rfl), ?_⟩
  rw [zE_obj (S := uI S o j v) (t := t) hs ht]
  rw [zfl_set (f' := fun b => .int ((uI S o j v).2.2.1 o b)) (h' := fun j => va_rf ((S.2.2.2 o j).map ad)) (zk t) 0 j 0 hk (fun k hk => ⟨by simp only [uI, up2]; rw [if_neg (fun q => hk (by omega))], rfl⟩) (by simp [uI, up2])]
  rfl
theorem zE_uR {g : Gt} {o j t : Nat} {v : Option Nat} (hs : (S.2.1 o).1 = t) (ht : t < 7) (hk : (zk t)[j]? = some 1) : (∀ a, a ≠ o → zE g ad (uR S o j v) a = zE g ad S a) ∧ zE g ad (uR S o j v) o = .inr (t, (zfl (fun j => .int (S.2.2.1 o j)) (fun j => va_rf ((S.2.2.2 o j).map ad)) (zk t) 0).set j (va_rf (v.map ad))) := by
  refine ⟨fun a ha => zE_congr rfl (fun b => rfl) (fun b => by simp [uR, up2, ha]), ?_⟩
  rw [zE_obj (S := uR S o j v) (t := t) hs ht]
  rw [zfl_set (f' := fun j => .int (S.2.2.1 o j)) (h' := fun b => va_rf (((uR S o j v).2.2.2 o b).map ad)) (zk t) 0 j 1 hk (fun k hk => ⟨rfl, by simp only [uR, up2]; rw [if_neg (fun q => hk (by omega))]⟩) (by simp [uR, up2])]
  rfl
theorem j_pI (K : Kx E cc own rm) {i t j N : Nat} {C ref nm ds : String} {T : u_T} {r : Option Nat} {v : Int32} {ty0 : Nat → FieldType} {ty : FieldType} (d : decode cc pc = .ok (.putfield i, 3) ∧ pc + 3 = pc') (hcl : zcl[t]? = some (C, T, N)) (hj : j < N) (hT : T j = (C, nm, ds, false)) (hrf : C = ref) (hin : ∀ w ∈ u_ws C T N, w ∈ lw_g) (hty : ∀ k, k < N → parseFieldDescriptor (T k).2.2.1 = some (ty0 k)) (hnm : ∀ a, a < N → ∀ b, b < N → a ≠ b → (T a).2.1 ≠ (T b).2.1) (ht : t < 7) (hk : (zk t)[j]? = some 0) (hlk : (Cond.fieldLink own i ref nm ds) ∈ lw_g) (hd : ty0 j = ty) (hn : narrow ty (.int v) = .int v) (hf : fits ty (.int v) = true) (e : pI S r t j v = some S') (k : J E cells slots pc' lv st S' ad) : J E cells slots pc lv (vI v :: vR r :: st) S ad := by
  obtain ⟨d, rfl⟩ := d
  obtain ⟨o, rfl, ho, hs, rfl⟩ := pI_some e
  subst hrf
  subst hd
  intro hw H locs ls hP hD hS hl
  have hg := (Wl_get (g := eG E) (ad := ad) ho).trans (by rw [zE_obj hs ht])
  obtain ⟨-, z1, z2⟩ := zE_uI (g := eG E) (ad := ad) (v := v) hs ht hk
  have hw2 := Wl_set (S' := uI S o j v) ho rfl z1 z2
  refine va_put (q0 := o) (k := j) (index := i) (ref := C) (v := .int v) (ty := ty0 j) K.1 K.2.1 K.2.2.2.2.1 hin ty0 hty hnm K.2.2.2.1 K.2.2.2.2.2.1 hP hD hS hg hcl hj (K.2.2.2.2.1 _ (by rw [hT]; exact hlk)) (fun x h => by rw [hT] at h ⊢; exact h) (by rw [hT]) (hty j hj) hn hf ?_ d (fun H1 locs1 hP1 hD1 hS1 => ?_)
  · rw [zfl_len]
    exact (List.getElem?_eq_some_iff.mp hk).1
  · rw [hw2] at hP1 hD1
    exact k (zW_uI hw) H1 locs1 ls hP1 hD1 hS1 hl
theorem j_pR (K : Kx E cc own rm) {i t j N : Nat} {C ref nm ds : String} {T : u_T} {r v : Option Nat} {ty0 : Nat → FieldType} {ty : FieldType} (d : decode cc pc = .ok (.putfield i, 3) ∧ pc + 3 = pc') (hcl : zcl[t]? = some (C, T, N)) (hj : j < N) (hT : T j = (C, nm, ds, false)) (hrf : C = ref) (hin : ∀ w ∈ u_ws C T N, w ∈ lw_g) (hty : ∀ k, k < N → parseFieldDescriptor (T k).2.2.1 = some (ty0 k)) (hnm : ∀ a, a < N → ∀ b, b < N → a ≠ b → (T a).2.1 ≠ (T b).2.1) (ht : t < 7) (hk : (zk t)[j]? = some 1) (hlk : (Cond.fieldLink own i ref nm ds) ∈ lw_g) (hd : ty0 j = ty) (hn : ∀ q : Option Nat, narrow ty (va_rf q) = va_rf q) (hf : ∀ q : Option Nat, fits ty (va_rf q) = true) (e : pR S r t j v = some S') (k : J E cells slots pc' lv st S' ad) : J E cells slots pc lv (vR v :: vR r :: st) S ad := by
  obtain ⟨d, rfl⟩ := d
  obtain ⟨o, rfl, ho, hs, hv, rfl⟩ := pR_some e
  subst hrf
  subst hd
  intro hw H locs ls hP hD hS hl
  have hg := (Wl_get (g := eG E) (ad := ad) ho).trans (by rw [zE_obj hs ht])
  obtain ⟨z1, z2⟩ := zE_uR (g := eG E) (ad := ad) (v := v) hs ht hk
  have hw2 := Wl_set (S' := uR S o j v) ho rfl z1 z2
  refine va_put (q0 := o) (k := j) (index := i) (ref := C) (v := va_rf (v.map ad)) (ty := ty0 j) K.1 K.2.1 K.2.2.2.2.1 hin ty0 hty hnm K.2.2.2.1 K.2.2.2.2.2.1 hP hD hS hg hcl hj (K.2.2.2.2.1 _ (by rw [hT]; exact hlk)) (fun x h => by rw [hT] at h ⊢; exact h) (by rw [hT]) (hty j hj) (hn _) (hf _) ?_ d (fun H1 locs1 hP1 hD1 hS1 => ?_)
  · rw [zfl_len]
    exact (List.getElem?_eq_some_iff.mp hk).1
  · rw [hw2] at hP1 hD1
    exact k (zW_uR hw hv) H1 locs1 ls hP1 hD1 hS1 hl
/-- a final field, in a constructor -/
theorem j_pIF (K : Kx E cc own rm) {i t j N : Nat} {C ref nm ds : String} {T : u_T} {r : Option Nat} {v : Int32} {ty0 : Nat → FieldType} {ty : FieldType} (hin2 : (eT E).name = "<init>") (d : decode cc pc = .ok (.putfield i, 3) ∧ pc + 3 = pc') (hcl : zcl[t]? = some (C, T, N)) (hj : j < N) (hT : T j = (C, nm, ds, true)) (hrf : C = ref) (hco : C = own) (hin : ∀ w ∈ u_ws C T N, w ∈ lw_g) (hty : ∀ k, k < N → parseFieldDescriptor (T k).2.2.1 = some (ty0 k)) (hnm : ∀ a, a < N → ∀ b, b < N → a ≠ b → (T a).2.1 ≠ (T b).2.1) (ht : t < 7) (hk : (zk t)[j]? = some 0) (hlk : (Cond.fieldLink own i ref nm ds) ∈ lw_g) (hd : ty0 j = ty) (hn : narrow ty (.int v) = .int v) (hf : fits ty (.int v) = true) (e : pI S r t j v = some S') (k : J E cells slots pc' lv st S' ad) : J E cells slots pc lv (vI v :: vR r :: st) S ad := by
  obtain ⟨d, rfl⟩ := d
  obtain ⟨o, rfl, ho, hs, rfl⟩ := pI_some e
  subst hrf
  subst hd
  intro hw H locs ls hP hD hS hl
  have hg := (Wl_get (g := eG E) (ad := ad) ho).trans (by rw [zE_obj hs ht])
  obtain ⟨-, z1, z2⟩ := zE_uI (g := eG E) (ad := ad) (v := v) hs ht hk
  have hw2 := Wl_set (S' := uI S o j v) ho rfl z1 z2
  refine va_putF (q0 := o) (k := j) (index := i) (ref := C) (v := .int v) (ty := ty0 j) K.1 K.2.1 K.2.2.2.2.1 hin ty0 hty hnm K.2.2.2.1 K.2.2.2.2.2.1 hP hD hS hg hcl hj (K.2.2.2.2.1 _ (by rw [hT]; exact hlk)) (fun x h => by rw [hT] at h ⊢; exact h) (by rw [hT]) hin2 (by rw [hT]; exact hco) (hty j hj) hn hf ?_ d (fun H1 locs1 hP1 hD1 hS1 => ?_)
  · rw [zfl_len]
    exact (List.getElem?_eq_some_iff.mp hk).1
  · rw [hw2] at hP1 hD1
    exact k (zW_uI hw) H1 locs1 ls hP1 hD1 hS1 hl
theorem j_pRF (K : Kx E cc own rm) {i t j N : Nat} {C ref nm ds : String} {T : u_T} {r v : Option Nat} {ty0 : Nat → FieldType} {ty : FieldType} (hin2 : (eT E).name = "<init>") (d : decode cc pc = .ok (.putfield i, 3) ∧ pc + 3 = pc') (hcl : zcl[t]? = some (C, T, N)) (hj : j < N) (hT : T j = (C, nm, ds, true)) (hrf : C = ref) (hco : C = own) (hin : ∀ w ∈ u_ws C T N, w ∈ lw_g) (hty : ∀ k, k < N → parseFieldDescriptor (T k).2.2.1 = some (ty0 k)) (hnm : ∀ a, a < N → ∀ b, b < N → a ≠ b → (T a).2.1 ≠ (T b).2.1) (ht : t < 7) (hk : (zk t)[j]? = some 1) (hlk : (Cond.fieldLink own i ref nm ds) ∈ lw_g) (hd : ty0 j = ty) (hn : ∀ q : Option Nat, narrow ty (va_rf q) = va_rf q) (hf : ∀ q : Option Nat, fits ty (va_rf q) = true) (e : pR S r t j v = some S') (k : J E cells slots pc' lv st S' ad) : J E cells slots pc lv (vR v :: vR r :: st) S ad := by
  obtain ⟨d, rfl⟩ := d
  obtain ⟨o, rfl, ho, hs, hv, rfl⟩ := pR_some e
  subst hrf
  subst hd
  intro hw H locs ls hP hD hS hl
  have hg := (Wl_get (g := eG E) (ad := ad) ho).trans (by rw [zE_obj hs ht])
  obtain ⟨z1, z2⟩ := zE_uR (g := eG E) (ad := ad) (v := v) hs ht hk
  have hw2 := Wl_set (S' := uR S o j v) ho rfl z1 z2
  refine va_putF (q0 := o) (k := j) (index := i) (ref := C) (v := va_rf (v.map ad)) (ty := ty0 j) K.1 K.2.1 K.2.2.2.2.1 hin ty0 hty hnm K.2.2.2.1 K.2.2.2.2.2.1 hP hD hS hg hcl hj (K.2.2.2.2.1 _ (by rw [hT]; exact hlk)) (fun x h => by rw [hT] at h ⊢; exact h) (by rw [hT]) hin2 (by rw [hT]; exact hco) (hty j hj) (hn _) (hf _) ?_ d (fun H1 locs1 hP1 hD1 hS1 => ?_)
  · rw [zfl_len]
    exact (List.getElem?_eq_some_iff.mp hk).1
  · rw [hw2] at hP1 hD1
    exact k (zW_uR hw hv) H1 locs1 ls hP1 hD1 hS1 hl
theorem rf_narrow (ty : FieldType) (h : ∀ v : Value, narrow ty v = v ∨ ∃ x, v = .int x) (q : Option Nat) : narrow ty (va_rf q) = va_rf q := by
  rcases h (va_rf q) with h | ⟨x, h⟩
  · exact h
  · cases q <;> cases h
theorem j_aG (K : Kx E cc own rm) {r : Option Nat} {i v : Int32} (d : decode cc pc = .ok (.iaload, 1) ∧ pc + 1 = pc') (e : aG S r i = some v) (k : J E cells slots pc' lv (vI v :: st) S ad) : J E cells slots pc lv (vI i :: vR r :: st) S ad := by
  obtain ⟨d, rfl⟩ := d
  obtain ⟨o, rfl, ho, hs, hi, rfl⟩ := aG_some e
  intro hw H locs ls hP hD hS hl
  have hg := (Wl_get (g := eG E) (ad := ad) ho).trans (by rw [zE_int hs])
  exact va_iald (q0 := o) (t0 := 0) K.1 K.2.1 K.2.2.2.2.2.1 hP hg rfl hi d (k hw H locs ls hP hD hS hl)
theorem j_aP (K : Kx E cc own rm) {r : Option Nat} {i v : Int32} (d : decode cc pc = .ok (.iastore, 1) ∧ pc + 1 = pc') (e : aP S r i v = some S') (k : J E cells slots pc' lv st S' ad) : J E cells slots pc lv (vI v :: vI i :: vR r :: st) S ad := by
  obtain ⟨d, rfl⟩ := d
  obtain ⟨o, rfl, ho, hs, hi, rfl⟩ := aP_some e
  intro hw H locs ls hP hD hS hl
  have hg := (Wl_get (g := eG E) (ad := ad) ho).trans (by rw [zE_int hs])
  refine va_iast (q0 := o) (t0 := 0) K.1 K.2.1 K.2.2.2.2.2.1 hP hD hS hg rfl hi d (fun H1 locs1 hP1 hD1 hS1 => ?_)
  have hw2 := Wl_set (g := eG E) (ad := ad) (S := S) (S' := uI S o i.toNatClampNeg v) (k := o) (e := .inl ((eG E).1, (S.2.1 o).2, .inl (upd (S.2.2.1 o) i.toNatClampNeg v))) ho rfl (fun a ha => zE_congr rfl (fun b => by simp [uI, up2, ha]) (fun b => rfl)) (by
    rw [zE_int (S := uI S o i.toNatClampNeg v) hs]
    have e1 : (uI S o i.toNatClampNeg v).2.2.1 o = upd (S.2.2.1 o) i.toNatClampNeg v := by
      funext b
      simp [uI, up2, upd]
    rw [e1]
    rfl)
  rw [hw2] at hP1 hD1
  exact k (zW_uI hw) H1 locs1 ls hP1 hD1 hS1 hl
theorem j_aL (K : Kx E cc own rm) {r : Option Nat} {t : Nat} {v : Int32} (ht : t = 7 ∨ t = 8 ∨ t = 9) (d : decode cc pc = .ok (.arraylength, 1) ∧ pc + 1 = pc') (e : aL S r t = some v) (k : J E cells slots pc' lv (vI v :: st) S ad) : J E cells slots pc lv (vR r :: st) S ad := by
  obtain ⟨d, rfl⟩ := d
  obtain ⟨o, rfl, ho, hs, rfl⟩ := aL_some e
  intro hw H locs ls hP hD hS hl
  rcases ht with rfl | rfl | rfl
  · have hg := (Wl_get (g := eG E) (ad := ad) ho).trans (by rw [zE_int hs])
    exact va_alen (q0 := o) (t0 := 0) K.1 K.2.1 K.2.2.2.2.2.1 hP hg rfl rfl d (k hw H locs ls hP hD hS hl)
  · have hg := (Wl_get (g := eG E) (ad := ad) ho).trans (by rw [zE_r8 hs])
    exact va_alen (q0 := o) (t0 := 1) K.1 K.2.1 K.2.2.2.2.2.1 hP hg rfl rfl d (k hw H locs ls hP hD hS hl)
  · have hg := (Wl_get (g := eG E) (ad := ad) ho).trans (by rw [zE_r9 hs])
    exact va_alen (q0 := o) (t0 := 2) K.1 K.2.1 K.2.2.2.2.2.1 hP hg rfl rfl d (k hw H locs ls hP hD hS hl)
theorem j_rG (K : Kx E cc own rm) {r v : Option Nat} {t : Nat} {i : Int32} (ht : t = 8 ∨ t = 9) (d : decode cc pc = .ok (.aaload, 1) ∧ pc + 1 = pc') (e : rG S r t i = some v) (k : J E cells slots pc' lv (vR v :: st) S ad) : J E cells slots pc lv (vI i :: vR r :: st) S ad := by
  obtain ⟨d, rfl⟩ := d
  obtain ⟨o, rfl, ho, hs, hi, rfl⟩ := rG_some e
  intro hw H locs ls hP hD hS hl
  rcases ht with rfl | rfl
  · have hg := (Wl_get (g := eG E) (ad := ad) ho).trans (by rw [zE_r8 hs])
    exact va_aldq (q0 := o) (t0 := 1) K.1 K.2.1 K.2.2.2.2.2.1 hP hg rfl hi d (k hw H locs ls hP hD hS hl)
  · have hg := (Wl_get (g := eG E) (ad := ad) ho).trans (by rw [zE_r9 hs])
    exact va_aldq (q0 := o) (t0 := 2) K.1 K.2.1 K.2.2.2.2.2.1 hP hg rfl hi d (k hw H locs ls hP hD hS hl)
theorem uR_up {g : Gt} {o j : Nat} {x : Nat} : (fun b => ((uR S o j (some x)).2.2.2 o b).map ad) = va_up (fun b => (S.2.2.2 o b).map ad) j (some (ad x)) := by
  funext b
  by_cases h : b = j
  · simp [uR, up2, va_up, h]
  · simp [uR, up2, va_up, h]
theorem j_rP (K : Kx E cc own rm) {r v : Option Nat} {t u : Nat} {i : Int32} (ht : (t = 8 ∧ u = 1) ∨ (t = 9 ∧ u = 3)) (d : decode cc pc = .ok (.aastore, 1) ∧ pc + 1 = pc') (e : rP S r t u i v = some S') (k : J E cells slots pc' lv st S' ad) : J E cells slots pc lv (vR v :: vI i :: vR r :: st) S ad := by
  obtain ⟨d, rfl⟩ := d
  obtain ⟨o, x, rfl, ho, hs, rfl, hx, hu, hi, rfl⟩ := rP_some e
  intro hw H locs ls hP hD hS hl
  rcases ht with ⟨rfl, rfl⟩ | ⟨rfl, rfl⟩
  · have hg := (Wl_get (g := eG E) (ad := ad) ho).trans (by rw [zE_r8 hs])
    have hg2 := (Wl_get (g := eG E) (ad := ad) hx).trans (by rw [zE_obj hu (by decide)])
    refine va_astq (q0 := o) (t0 := 1) (qk := x) (ci := 1) (r := (RX2, TX2, 3)) K.1 K.2.1 K.2.2.2.2.2.1 hP hD hS hg rfl hg2 rfl hi d (fun H1 locs1 hP1 hD1 hS1 => ?_)
    have hw2 := Wl_set (g := eG E) (ad := ad) (S := S) (S' := uR S o i.toNatClampNeg (some x)) (k := o) (e := .inl ((eG E).2.1, (S.2.1 o).2, .inr (.inr (.inr (.inr (va_up (fun b => (S.2.2.2 o b).map ad) i.toNatClampNeg (some (ad x)))))))) ho rfl (fun a ha => zE_congr rfl (fun b => rfl) (fun b => by simp [uR, up2, ha])) (by
      rw [zE_r8 (S := uR S o i.toNatClampNeg (some x)) hs, uR_up (g := eG E)]
      rfl)
    rw [hw2] at hP1 hD1
    exact k (zW_uR hw hx) H1 locs1 ls hP1 hD1 hS1 hl
  · have hg := (Wl_get (g := eG E) (ad := ad) ho).trans (by rw [zE_r9 hs])
    have hg2 := (Wl_get (g := eG E) (ad := ad) hx).trans (by rw [zE_obj hu (by decide)])
    refine va_astq (q0 := o) (t0 := 2) (qk := x) (ci := 3) (r := (RX4, TX4, 3)) K.1 K.2.1 K.2.2.2.2.2.1 hP hD hS hg rfl hg2 rfl hi d (fun H1 locs1 hP1 hD1 hS1 => ?_)
    have hw2 := Wl_set (g := eG E) (ad := ad) (S := S) (S' := uR S o i.toNatClampNeg (some x)) (k := o) (e := .inl ((eG E).2.2.1, (S.2.1 o).2, .inr (.inr (.inr (.inr (va_up (fun b => (S.2.2.2 o b).map ad) i.toNatClampNeg (some (ad x)))))))) ho rfl (fun a ha => zE_congr rfl (fun b => rfl) (fun b => by simp [uR, up2, ha])) (by
      rw [zE_r9 (S := uR S o i.toNatClampNeg (some x)) hs, uR_up (g := eG E)]
      rfl)
    rw [hw2] at hP1 hD1
    exact k (zW_uR hw hx) H1 locs1 ls hP1 hD1 hS1 hl
end ZJ
