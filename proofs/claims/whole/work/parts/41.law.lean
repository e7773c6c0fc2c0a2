/-! THE CLAIM OUT OF ONE WALK OF THE LAW'S BODY. Your part is whole_start (and what it stands on); all else here is the same for every law, but numbers. -/
def R_law : String := "DrumOfGuiltLaw"
def lw_P (b : Addr) (xs : List Int32) (args : Array Value) (s : State) : Prop := args = #[.ref b] ∧ s.IntsAt b xs ∧ xs.length ≤ 3584 ∧ (Jvm.Cond.and given_1 narrow_1).before args s = true
def lw_Q (_ : Array Value) (s : State) (o : Outcome) (t : State) : Prop := o = .returned (some (.int 1)) ∧ Framed s o t [] 600000 7302250
def lw_Z (below : List Frame) (a : Array Value) (s : State) : State → Prop := fun t => ∃ o, t.status = .running ∧ Ended t below o ∧ lw_Q a s o t
/-- the law's own end, with 1 on the stack, nothing written that was there before, its room as the claim has it -/
theorem lw_ret {p : Program} {l : Launch} {e : Env} {s : State} {m : MethodId} {below : List Frame} {meth : Method} {c : Code} {b : Nat} (hx : p.tables.exec = Jvm.exec) (hb : c.code = code) (hr : meth.sig.returnType = ret) (hlocks : meth.locks = false) {pc : Nat} {H : Heap} {ls : Array Slot} (hdg : decode code pc = .ok (.ireturn, 1)) : W p l e room_1 s m #[Value.ref b] below meth c H [] 600000 7302250 (lw_Z below #[Value.ref b] s) (F0 m pc ls [.int 1]) := by
  intro T hT X
  obtain ⟨fs, hret, hrun, hended, hW, hframe⟩ := X.leave (v := some (.int 1)) (hlocks := hlocks) (fun h => by rw [hr] at h; cases h)
  have hmeth' : T.vm.method? m = some meth := X.method'
  refine ⟨T.setFrames fs, ?_, .returned (some (.int 1)), hrun, hended, rfl, ⟨_, rfl⟩, hW, hframe⟩
  jvm_step X.here [X.here.top, hx, hb, hdg, hmeth', hr, ret, narrow_b1]
  (try refine ⟨rfl, ?_⟩); (try refine ⟨rfl, ?_⟩)
  first | (intro acts; rw [hret _ acts rfl rfl rfl]) | rw [hret _ _ rfl rfl rfl]
  exact Steps.refl _
/-- what holds at the law's entry: the machine, the code, the tables' words (any of lw_tbl by 'hts w (by decide +kernel)'), the script of L ints xs at the cell b, what the Statement gives of the start (any of its parts by flat_of_before) -/
def lw_At (p : Program) (s : State) (m : MethodId) (meth : Method) (c : Code) (b L : Nat) (xs : Nat → Int32) : Prop :=
  p.tables.exec = Jvm.exec ∧ c.code = code ∧ meth.sig.returnType = ret ∧ c.maxLocals = 4 ∧ s.vm.findClass R_law = some m.cls ∧ (∀ w ∈ lw_tbl, w.before #[Value.ref b] s = true) ∧ va_X b L xs s s.heap ∧ b < s.heap.size ∧ meth.locks = false ∧ (Jvm.Cond.and given_1 narrow_1).before #[Value.ref b] s = true

abbrev AL (s : State) : Nat → Prop := fun q => s.heap.size ≤ q
def KL (p : Program) (s : State) (m : MethodId) (meth : Method) (c : Code) (b L : Nat) (xs : Nat → Int32) (D : va_G) (g : Gt) : Prop :=
  p.tables.exec = Jvm.exec ∧ c.code = code ∧ meth.sig.returnType = ret ∧ c.maxLocals = 4 ∧ s.vm.findClass RL = some m.cls ∧ (∀ w ∈ lw_g, w.before #[Value.ref b] s = true) ∧ va_X b L xs s s.heap ∧ b < s.heap.size ∧ meth.locks = false ∧ va_K D zcl (tyg g) s ∧ Gx g (AL s) s s.heap
def lvL (b : Nat) (adX adM : Nat → Nat) (i : Int32) : List (Nat × Value) := [(0, .ref b), (1, .ref (adX 0)), (2, .ref (adM 0)), (3, .int i)]
def JL (p : Program) (l : Launch) (e : Env) (s : State) (m : MethodId) (below : List Frame) (meth : Method) (c : Code) (b : Nat) (D : va_G) (g : Gt) (cells slots pc : Nat) (i : Int32) (st : List Value) (SX SM : Hp) (adX adM : Nat → Nat) : Prop :=
  (0 < SX.1 ∧ (SX.2.1 0).1 = 5) → (0 < SM.1 ∧ (SM.2.1 0).1 = 6) → zW SX → zW SM → ∀ (H : Heap) (locs : List Loc) (ls : Array Slot), va_P D zcl (Wl g adX SX ++ Wl g adM SM) H → va_D (AL s) (Wl g adX SX ++ Wl g adM SM) → va_S (AL s) s.heap H locs → lv_has ls 4 (lvL b adX adM i) →
    W p l e room_1 s m #[Value.ref b] below meth c H locs cells slots (lw_Z below #[Value.ref b] s) (F0 m pc ls st)
section ZL
variable {p : Program} {l : Launch} {e : Env} {s : State} {m : MethodId} {below : List Frame} {meth : Method} {c : Code} {b L : Nat} {xs : Nat → Int32} {D : va_G} {g : Gt} {cells slots pc : Nat} {i : Int32} {st : List Value} {SX SM : Hp} {adX adM : Nat → Nat}
theorem wl_left {H : Heap} {w1 w2 : va_W} (h : va_P D zcl (w1 ++ w2) H) : va_P D zcl w1 H := fun k q hk => h k q (by rw [List.getElem?_append_left (List.getElem?_eq_some_iff.mp hk).1]; exact hk)
theorem wl_right {H : Heap} {w1 w2 : va_W} (h : va_P D zcl (w1 ++ w2) H) : va_P D zcl w2 H := fun k q hk => h (w1.length + k) q (by rw [List.getElem?_append_right (by omega), Nat.add_sub_cancel_left]; exact hk)
theorem wd_left {A : Nat → Prop} {w1 w2 : va_W} (h : va_D A (w1 ++ w2)) : va_D A w1 := by
  refine ⟨fun i j p q hi hj e => ?_, fun k q hk => h.2 k q (by rw [List.getElem?_append_left (List.getElem?_eq_some_iff.mp hk).1]; exact hk)⟩
  exact h.1 i j p q (by rw [List.getElem?_append_left (List.getElem?_eq_some_iff.mp hi).1]; exact hi) (by rw [List.getElem?_append_left (List.getElem?_eq_some_iff.mp hj).1]; exact hj) e
theorem wd_right {A : Nat → Prop} {w1 w2 : va_W} (h : va_D A (w1 ++ w2)) : va_D A w2 := by
  have f : ∀ (k : Nat) (q : Nat × va_E), w2[k]? = some q → (w1 ++ w2)[w1.length + k]? = some q := fun k q hk => by rw [List.getElem?_append_right (by omega), Nat.add_sub_cancel_left]; exact hk
  refine ⟨fun i j p q hi hj e => ?_, fun k q hk => h.2 _ q (f k q hk)⟩
  have := h.1 _ _ p q (f i p hi) (f j q hj) e
  omega
theorem wd_apart {A : Nat → Prop} {w1 w2 : va_W} (h : va_D A (w1 ++ w2)) : ∀ (i j : Nat) (p q : Nat × va_E), w1[i]? = some p → w2[j]? = some q → p.1 ≠ q.1 := by
  intro i j p q hi hj e
  have hi' := (List.getElem?_eq_some_iff.mp hi).1
  have := h.1 i (w1.length + j) p q (by rw [List.getElem?_append_left hi']; exact hi) (by rw [List.getElem?_append_right (by omega), Nat.add_sub_cancel_left]; exact hj) e
  omega

theorem jl_a0 (K : KL p s m meth c b L xs D g)  (d : decode code pc = .ok (.aload_n 0, 1))  (k : JL p l e s m below meth c b D g cells slots (pc + 1) i (.ref b :: st) SX SM adX adM) : JL p l e s m below meth c b D g cells slots pc i (st) SX SM adX adM := by
  intro hx0 hm0 hw1 hw2 H locs ls hP hD hS hl
  exact lv_aload_n K.1 K.2.1 d rfl (lv_at hl 0 rfl) (k hx0 hm0 hw1 hw2 H locs ls hP hD hS hl)
theorem jl_a1 (K : KL p s m meth c b L xs D g)  (d : decode code pc = .ok (.aload_n 1, 1))  (k : JL p l e s m below meth c b D g cells slots (pc + 1) i (.ref (adX 0) :: st) SX SM adX adM) : JL p l e s m below meth c b D g cells slots pc i (st) SX SM adX adM := by
  intro hx0 hm0 hw1 hw2 H locs ls hP hD hS hl
  exact lv_aload_n K.1 K.2.1 d rfl (lv_at hl 1 rfl) (k hx0 hm0 hw1 hw2 H locs ls hP hD hS hl)
theorem jl_a2 (K : KL p s m meth c b L xs D g)  (d : decode code pc = .ok (.aload_n 2, 1))  (k : JL p l e s m below meth c b D g cells slots (pc + 1) i (.ref (adM 0) :: st) SX SM adX adM) : JL p l e s m below meth c b D g cells slots pc i (st) SX SM adX adM := by
  intro hx0 hm0 hw1 hw2 H locs ls hP hD hS hl
  exact lv_aload_n K.1 K.2.1 d rfl (lv_at hl 2 rfl) (k hx0 hm0 hw1 hw2 H locs ls hP hD hS hl)
theorem jl_i3 (K : KL p s m meth c b L xs D g)  (d : decode code pc = .ok (.iload_n 3, 1))  (k : JL p l e s m below meth c b D g cells slots (pc + 1) i (.int i :: st) SX SM adX adM) : JL p l e s m below meth c b D g cells slots pc i (st) SX SM adX adM := by
  intro hx0 hm0 hw1 hw2 H locs ls hP hD hS hl
  exact lv_iload_n K.1 K.2.1 d rfl (lv_at hl 3 rfl) (k hx0 hm0 hw1 hw2 H locs ls hP hD hS hl)
theorem jl_iconst (K : KL p s m meth c b L xs D g) {n : Int} {v : Int32} (d : decode code pc = .ok (.iconst n, 1)) (hv : Int32.ofInt n = v) (k : JL p l e s m below meth c b D g cells slots (pc + 1) i (.int v :: st) SX SM adX adM) : JL p l e s m below meth c b D g cells slots pc i (st) SX SM adX adM := by
  intro hx0 hm0 hw1 hw2 H locs ls hP hD hS hl
  exact lv_iconst K.1 K.2.1 d hv (k hx0 hm0 hw1 hw2 H locs ls hP hD hS hl)
theorem jl_bip (K : KL p s m meth c b L xs D g) {n : Int} {v : Int32} (d : decode code pc = .ok (.bipush n, 2)) (hv : (Int8.ofInt n).toInt32 = v) (k : JL p l e s m below meth c b D g cells slots (pc + 2) i (.int v :: st) SX SM adX adM) : JL p l e s m below meth c b D g cells slots pc i (st) SX SM adX adM := by
  intro hx0 hm0 hw1 hw2 H locs ls hP hD hS hl
  exact lv_bipush K.1 K.2.1 d hv (k hx0 hm0 hw1 hw2 H locs ls hP hD hS hl)
theorem jl_iadd (K : KL p s m meth c b L xs D g) {x y : Int32} (d : decode code pc = .ok (.iadd, 1))  (k : JL p l e s m below meth c b D g cells slots (pc + 1) i (.int (x + y) :: st) SX SM adX adM) : JL p l e s m below meth c b D g cells slots pc i (.int y :: .int x :: st) SX SM adX adM := by
  intro hx0 hm0 hw1 hw2 H locs ls hP hD hS hl
  exact lv_iadd K.1 K.2.1 d (k hx0 hm0 hw1 hw2 H locs ls hP hD hS hl)
theorem jl_isub (K : KL p s m meth c b L xs D g) {x y : Int32} (d : decode code pc = .ok (.isub, 1))  (k : JL p l e s m below meth c b D g cells slots (pc + 1) i (.int (x - y) :: st) SX SM adX adM) : JL p l e s m below meth c b D g cells slots pc i (.int y :: .int x :: st) SX SM adX adM := by
  intro hx0 hm0 hw1 hw2 H locs ls hP hD hS hl
  exact lv_isub K.1 K.2.1 d (k hx0 hm0 hw1 hw2 H locs ls hP hD hS hl)
theorem jl_iand (K : KL p s m meth c b L xs D g) {x y : Int32} (d : decode code pc = .ok (.iand, 1))  (k : JL p l e s m below meth c b D g cells slots (pc + 1) i (.int (x &&& y) :: st) SX SM adX adM) : JL p l e s m below meth c b D g cells slots pc i (.int y :: .int x :: st) SX SM adX adM := by
  intro hx0 hm0 hw1 hw2 H locs ls hP hD hS hl
  exact lv_iand K.1 K.2.1 d (k hx0 hm0 hw1 hw2 H locs ls hP hD hS hl)
theorem jl_lcmp (K : KL p s m meth c b L xs D g) {x y : Int64} (d : decode code pc = .ok (.lcmp, 1))  (k : JL p l e s m below meth c b D g cells slots (pc + 1) i (.int (lg_cmp x y) :: st) SX SM adX adM) : JL p l e s m below meth c b D g cells slots pc i (.long y :: .long x :: st) SX SM adX adM := by
  intro hx0 hm0 hw1 hw2 H locs ls hP hD hS hl
  exact W.lcmp K.1 K.2.1 d (k hx0 hm0 hw1 hw2 H locs ls hP hD hS hl)
theorem jl_len (K : KL p s m meth c b L xs D g)  (d : decode code pc = .ok (.arraylength, 1))  (k : JL p l e s m below meth c b D g cells slots (pc + 1) i (.int (Int32.ofNat L) :: st) SX SM adX adM) : JL p l e s m below meth c b D g cells slots pc i (.ref b :: st) SX SM adX adM := by
  intro hx0 hm0 hw1 hw2 H locs ls hP hD hS hl
  exact va_slen K.1 K.2.1 K.2.2.2.2.2.2.1 K.2.2.2.2.2.2.2.1 (Nat.not_le.mpr K.2.2.2.2.2.2.2.1) hS d (k hx0 hm0 hw1 hw2 H locs ls hP hD hS hl)
theorem jl_ld (K : KL p s m meth c b L xs D g) {w : Int32} (d : decode code pc = .ok (.iaload, 1)) (hin : vp_in w L) (k : JL p l e s m below meth c b D g cells slots (pc + 1) i (.int (xs w.toNatClampNeg) :: st) SX SM adX adM) : JL p l e s m below meth c b D g cells slots pc i (.int w :: .ref b :: st) SX SM adX adM := by
  intro hx0 hm0 hw1 hw2 H locs ls hP hD hS hl
  exact va_sld K.1 K.2.1 K.2.2.2.2.2.2.1 K.2.2.2.2.2.2.2.1 (Nat.not_le.mpr K.2.2.2.2.2.2.2.1) hS hin d (k hx0 hm0 hw1 hw2 H locs ls hP hD hS hl)
theorem jl_goto (K : KL p s m meth c b L xs D g) {off : Int} {tgt : Nat} (d : decode code pc = .ok (.goto off, 3)) (ht : (pc : Int) + off = (tgt : Int)) (k : JL p l e s m below meth c b D g cells slots tgt i st SX SM adX adM) : JL p l e s m below meth c b D g cells slots pc i st SX SM adX adM := by
  intro hx0 hm0 hw1 hw2 H locs ls hP hD hS hl
  exact lv_goto K.1 K.2.1 d ht (k hx0 hm0 hw1 hw2 H locs ls hP hD hS hl)
theorem jl_eq (K : KL p s m meth c b L xs D g) {x : Int32} {off : Int} {tgt : Nat} (d : decode code pc = .ok (.if_icmp .eq off, 3)) (ht : (pc : Int) + off = (tgt : Int)) (k : JL p l e s m below meth c b D g cells slots tgt i st SX SM adX adM) : JL p l e s m below meth c b D g cells slots pc i (.int x :: .int x :: st) SX SM adX adM := by
  intro hx0 hm0 hw1 hw2 H locs ls hP hD hS hl
  exact lv_icmp_eq K.1 K.2.1 d ht (fun _ => k hx0 hm0 hw1 hw2 H locs ls hP hD hS hl) (fun c => absurd rfl c)
theorem jl_leq (K : KL p s m meth c b L xs D g) {x : Int64} {off : Int} {tgt : Nat} (d0 : decode code pc = .ok (.lcmp, 1)) (d : decode code (pc + 1) = .ok (.ifCond .eq off, 3)) (ht : ((pc + 1 : Nat) : Int) + off = (tgt : Int)) (k : JL p l e s m below meth c b D g cells slots tgt i st SX SM adX adM) : JL p l e s m below meth c b D g cells slots pc i (.long x :: .long x :: st) SX SM adX adM := by
  refine jl_lcmp K d0 ?_
  intro hx0 hm0 hw1 hw2 H locs ls hP hD hS hl
  have e0 : lg_cmp x x = 0 := by simp [lg_cmp]
  exact lv_if_eq K.1 K.2.1 d ht (fun _ => k hx0 hm0 hw1 hw2 H locs ls hP hD hS hl) (fun c => absurd e0 c)
theorem jl_gt (K : KL p s m meth c b L xs D g) {x y : Int32} {off : Int} {tgt : Nat} (d : decode code pc = .ok (.if_icmp .gt off, 3)) (ht : (pc : Int) + off = (tgt : Int)) (kt : y < x → JL p l e s m below meth c b D g cells slots tgt i st SX SM adX adM) (kf : ¬ y < x → JL p l e s m below meth c b D g cells slots (pc + 3) i st SX SM adX adM) : JL p l e s m below meth c b D g cells slots pc i (.int y :: .int x :: st) SX SM adX adM := by
  intro hx0 hm0 hw1 hw2 H locs ls hP hD hS hl
  exact lv_icmp_gt K.1 K.2.1 d ht (fun q => kt q hx0 hm0 hw1 hw2 H locs ls hP hD hS hl) (fun q => kf q hx0 hm0 hw1 hw2 H locs ls hP hD hS hl)
theorem jl_tin (K : KL p s m meth c b L xs D g) {dflt lo hi off : Int} {offs : Array Int} {len tgt : Nat} {x : Int32} (d : decode code pc = .ok (.tableswitch dflt lo hi offs, len)) (h1 : ¬ x.toInt < lo) (h2 : ¬ hi < x.toInt) (ho : offs[(x.toInt - lo).toNat]? = some off) (ht : (pc : Int) + off = (tgt : Int)) (k : JL p l e s m below meth c b D g cells slots tgt i st SX SM adX adM) : JL p l e s m below meth c b D g cells slots pc i (.int x :: st) SX SM adX adM := by
  intro hx0 hm0 hw1 hw2 H locs ls hP hD hS hl
  exact lv_tableIn K.1 K.2.1 d h1 h2 ho ht (k hx0 hm0 hw1 hw2 H locs ls hP hD hS hl)
theorem jl_tout (K : KL p s m meth c b L xs D g) {dflt lo hi : Int} {offs : Array Int} {len tgt : Nat} {x : Int32} (d : decode code pc = .ok (.tableswitch dflt lo hi offs, len)) (h : x.toInt < lo ∨ hi < x.toInt) (ht : (pc : Int) + dflt = (tgt : Int)) (k : JL p l e s m below meth c b D g cells slots tgt i st SX SM adX adM) : JL p l e s m below meth c b D g cells slots pc i (.int x :: st) SX SM adX adM := by
  intro hx0 hm0 hw1 hw2 H locs ls hP hD hS hl
  exact lv_tableOut K.1 K.2.1 d h ht (k hx0 hm0 hw1 hw2 H locs ls hP hD hS hl)
theorem jl_inc (K : KL p s m meth c b L xs D g) {v : Int32} (d : decode code pc = .ok (.iinc 3 7, 3)) (hv : i + 7 = v) (k : JL p l e s m below meth c b D g cells slots (pc + 3) v st SX SM adX adM) : JL p l e s m below meth c b D g cells slots pc i st SX SM adX adM := by
  intro hx0 hm0 hw1 hw2 H locs ls hP hD hS hl
  subst hv
  exact lv_iinc (k := 3) (v := i + 7) (lv' := [(3, .int (i + 7)), (0, .ref b), (1, .ref (adX 0)), (2, .ref (adM 0))]) K.1 K.2.1 d hl rfl rfl (by decide) rfl (fun ls' hl' => k hx0 hm0 hw1 hw2 H locs ls' hP hD hS (lv_sub hl' [1, 2, 3, 0] rfl))
theorem jl_widen {c2 s2 : Nat} (h1 : cells ≤ c2) (h2 : slots ≤ s2) (k : JL p l e s m below meth c b D g c2 s2 pc i st SX SM adX adM) : JL p l e s m below meth c b D g cells slots pc i st SX SM adX adM := by
  intro hx0 hm0 hw1 hw2 H locs ls hP hD hS hl
  exact W.widen h1 h2 (k hx0 hm0 hw1 hw2 H locs ls hP hD hS hl)
theorem jl_end (K : KL p s m meth c b L xs D g) (d : decode code pc = .ok (.ireturn, 1)) (h1 : cells ≤ 600000) (h2 : slots ≤ 7302250) : JL p l e s m below meth c b D g cells slots pc i [.int 1] SX SM adX adM := by
  intro hx0 hm0 hw1 hw2 H locs ls hP hD hS hl
  refine va_forget (fun q hq => hS.2.2 q hq) ?_
  refine W.widen h1 h2 ?_
  exact lw_ret K.1 K.2.1 K.2.2.1 K.2.2.2.2.2.2.2.2.1 d
/-! a call of the one or the other: the other's cells stay -/
variable {y : MethodName} {cy : ByteArray} {mL n ix mc ms t N : Nat} {ret' : Option FieldType} {rmy : Room} {vs : List PV} {Qc : Qk} {T : u_T} {C : String}
theorem lcat (g : Gt) (adX : Nat → Nat) (vs : List PV) (v : Value) : ((vs.map (cv g adX)).reverse ++ v :: st) = (vs.map (cv g adX)).reverse ++ v :: st := rfl
/-- the run of a call on the world w at hand, the others beside it -/
theorem rl_V {S : Hp} {ad : Nat → Nat} (K : KL p s m meth c b L xs D g) {H : Heap} {locs : List Loc} {ls : Array Slot} (hw : zW S) (hP : va_P D zcl (Wl g ad S) H) (hD : va_D (AL s) (Wl g ad S)) (hS : va_S (AL s) s.heap H locs) (hl : ls.size = 4) (M : Ct l y cy mL ret' rmy mc ms (vR (some 0) :: vs) S Qc) (ho : 0 < S.1 ∧ (S.2.1 0).1 = t) (ht : t < 7) (hcl : zcl[t]? = some (C, T, N)) (d : decode code pc = .ok (.invokevirtual ix, 3)) (hlk : Cond.methodLink RL ix y ∈ lw_g) (hin : Cond.instanceMethod y ∈ lw_g) (hsel : Cond.selects C y y ∈ lw_g) (hini : Cond.initialized y.cls ∈ lw_g) (hco : Cond.code y cy mL ret' ∈ lw_g)
    (c1 : y.cls ≠ "java/lang/invoke/MethodHandle" ∧ y.cls ≠ "java/lang/invoke/VarHandle" ∧ (parseMethodDescriptor y.desc).map (fun d => d.parameters.length) = some n) (c2 : vs.length = n) (c3 : rmy.cells = mc) (c4 : rmy.slots = ms) (c5 : rmy.frames + 1 ≤ 2048 ∧ 8 + (mL + 11) + rmy.locals ≤ 84000) (c6 : (st.map fun v => v.category).sum ≤ 8) (c7 : cells + mc ≤ 600000 ∧ slots + ms ≤ 7302250) :
    ∃ a, va_Run p l e room_1 s m #[Value.ref b] below meth c H locs cells slots mc ms (F0 m pc ls ((vs.map (cv g ad)).reverse ++ .ref (ad 0) :: st)) st (Qc D g ad (va_A (Wl g ad S) H.size) a) (va_A (Wl g ad S) H.size) := by
  have hts := K.2.2.2.2.2.1
  have hg := (Wl_get (g := g) (ad := ad) ho.1).trans (by rw [zE_obj ho.2 ht])
  have hA : ∀ q, va_A (Wl g ad S) H.size q → AL s q := by
    intro q h
    rcases h with ⟨k, e, h⟩ | h
    · exact hD.2 k _ h
    · exact Nat.le_trans hS.1 h
  refine ⟨_, va_runV (As := vs.map (cv g ad)) (b := ad 0) (rest := st) (n := n) (C := C) ⟨K.1, K.2.1, K.2.2.2.1, K.2.2.2.2.1, hts⟩ (M D g ad H.size) ⟨callB_of n hts (good_g hco) rfl c3 c4 (hts _ hini) (hts _ hlk) c1 c5, hts _ hin, hts _ hsel⟩ ⟨Wst_blind, va_recv K.2.2.2.2.2.2.2.2.2.1 hP hcl hg, fun U hU hW => ⟨rfl, by rw [hU], by rw [hU]; exact hP, va_K.moved hW.alike K.2.2.2.2.2.2.2.2.2.1, hD.weaken (fun _ _ _ _ => trivial), hw, K.2.2.2.2.2.2.2.2.2.2.call hS hU hW hA⟩⟩ rfl (by rw [List.length_map]; exact c2) hl rfl (lv_room c6) d c7⟩
theorem wl_join {A : Nat → Prop} {w1 w2 w1' : va_W} {H H1 : Heap} (hP : va_P D zcl (w1 ++ w2) H) (hD : va_D A (w1 ++ w2)) (hA : ∀ q, va_A w1 H.size q → A q) (hk : ∀ q : Nat, q < H.size → ¬ va_A w1 H.size q → H1[q]? = H[q]?) (hP1 : va_P D zcl w1' H1) (hD1 : va_D (va_A w1 H.size) w1') : va_P D zcl w2 H1 ∧ va_D A w1' ∧ va_D A w2 ∧ ∀ (i j : Nat) (p q : Nat × va_E), w1'[i]? = some p → w2[j]? = some q → p.1 ≠ q.1 := by
  have h2 := wl_right hP
  have hlt : ∀ (j : Nat) (q : Nat × va_E), w2[j]? = some q → q.1 < H.size := fun j q hj => (h2 j q hj).lt
  have hout : ∀ (j : Nat) (q : Nat × va_E), w2[j]? = some q → ¬ va_A w1 H.size q.1 := by
    intro j q hj h
    rcases h with ⟨k, e, h⟩ | h
    · exact wd_apart hD k j (q.1, e) q h hj rfl
    · have := hlt j q hj
      omega
  refine ⟨h2.kept (fun k q hq => hk q.1 (hlt k q hq) (hout k q hq)), hD1.weaken (fun _ q _ hq => hA q.1 hq), wd_right hD, ?_⟩
  intro i j p q hi hj e
  exact hout j q hj (by rw [← e]; exact hD1.2 i p hi)
theorem swapP {w1 w2 : va_W} {H : Heap} (h : va_P D zcl (w1 ++ w2) H) : va_P D zcl (w2 ++ w1) H := (wl_right h).app (wl_left h)
theorem swapD {A : Nat → Prop} {w1 w2 : va_W} (h : va_D A (w1 ++ w2)) : va_D A (w2 ++ w1) := (wd_right h).app (wd_left h) (fun i j p q hi hj e => wd_apart h j i q p hj hi e.symm)
theorem AL_in {w : va_W} {H : Heap} {locs : List Loc} (hD : va_D (AL s) w) (hS : va_S (AL s) s.heap H locs) : ∀ q, va_A w H.size q → AL s q := by
  intro q h
  rcases h with ⟨k, e, h⟩ | h
  · exact hD.2 k _ h
  · exact Nat.le_trans hS.1 h

theorem jl_cXI (K : KL p s m meth c b L xs D g) {as : List Value} {r : Int32} {S1 : Hp} (M : Ct l y cy mL ret' rmy mc ms (vR (some 0) :: vs) SX (QI (r, S1))) (hcl : zcl[5]? = some (C, T, N)) (d : decode code pc = .ok (.invokevirtual ix, 3)) (hlk : Cond.methodLink RL ix y ∈ lw_g) (hin : Cond.instanceMethod y ∈ lw_g) (hsel : Cond.selects C y y ∈ lw_g) (hini : Cond.initialized y.cls ∈ lw_g) (hco : Cond.code y cy mL ret' ∈ lw_g)
    (c1 : y.cls ≠ "java/lang/invoke/MethodHandle" ∧ y.cls ≠ "java/lang/invoke/VarHandle" ∧ (parseMethodDescriptor y.desc).map (fun d => d.parameters.length) = some n) (c2 : vs.length = n) (c3 : rmy.cells = mc) (c4 : rmy.slots = ms) (c5 : rmy.frames + 1 ≤ 2048 ∧ 8 + (mL + 11) + rmy.locals ≤ 84000) (c6 : (st.map fun v => v.category).sum ≤ 8) (c7 : cells + mc ≤ 600000 ∧ slots + ms ≤ 7302250) (h0 : 0 < S1.1 ∧ (S1.2.1 0).1 = 5) (hvs : ∀ ad, vs.map (cv g ad) = as)
    (k : JL p l e s m below meth c b D g (cells + mc) (slots + ms) (pc + 3) i (.int r :: st) S1 SM adX adM) : JL p l e s m below meth c b D g cells slots pc i (as.reverse ++ .ref (adX 0) :: st) SX SM adX adM := by
  intro hx0 hm0 hw1 hw2 H locs ls hP hD hS hl
  obtain ⟨a, hr⟩ := rl_V (st := st) K hw1 (wl_left hP) (wd_left hD) hS hl.1 M hx0 (by decide) hcl d hlk hin hsel hini hco c1 c2 c3 c4 c5 c6 c7
  rw [hvs] at hr
  refine va_calli (A0 := AL s) hr hS (fun q _ h => AL_in (wd_left hD) hS q h) (AL_in (wd_left hD) hS) (fun r1 u t H1 locs1 ht hvm hpost hB hz hk hS1 => ?_)
  obtain ⟨b1, b2, b3⟩ := hB
  rw [ht] at b1
  rw [hpost]
  obtain ⟨j1, j2, j3, j4⟩ := wl_join hP hD (AL_in (wd_left hD) hS) hk b1 b2
  have hPn := b1.app j1
  have hDn := j2.app j3 j4
  exact k h0 hm0 b3 hw2 H1 locs1 ls hPn hDn hS1 hl
theorem jl_cXL (K : KL p s m meth c b L xs D g) {as : List Value} {r : Int64} {S1 : Hp} (M : Ct l y cy mL ret' rmy mc ms (vR (some 0) :: vs) SX (QL (r, S1))) (hcl : zcl[5]? = some (C, T, N)) (d : decode code pc = .ok (.invokevirtual ix, 3)) (hlk : Cond.methodLink RL ix y ∈ lw_g) (hin : Cond.instanceMethod y ∈ lw_g) (hsel : Cond.selects C y y ∈ lw_g) (hini : Cond.initialized y.cls ∈ lw_g) (hco : Cond.code y cy mL ret' ∈ lw_g)
    (c1 : y.cls ≠ "java/lang/invoke/MethodHandle" ∧ y.cls ≠ "java/lang/invoke/VarHandle" ∧ (parseMethodDescriptor y.desc).map (fun d => d.parameters.length) = some n) (c2 : vs.length = n) (c3 : rmy.cells = mc) (c4 : rmy.slots = ms) (c5 : rmy.frames + 1 ≤ 2048 ∧ 8 + (mL + 11) + rmy.locals ≤ 84000) (c6 : (st.map fun v => v.category).sum ≤ 8) (c7 : cells + mc ≤ 600000 ∧ slots + ms ≤ 7302250) (h0 : 0 < S1.1 ∧ (S1.2.1 0).1 = 5) (hvs : ∀ ad, vs.map (cv g ad) = as)
    (k : JL p l e s m below meth c b D g (cells + mc) (slots + ms) (pc + 3) i (.long r :: st) S1 SM adX adM) : JL p l e s m below meth c b D g cells slots pc i (as.reverse ++ .ref (adX 0) :: st) SX SM adX adM := by
  intro hx0 hm0 hw1 hw2 H locs ls hP hD hS hl
  obtain ⟨a, hr⟩ := rl_V (st := st) K hw1 (wl_left hP) (wd_left hD) hS hl.1 M hx0 (by decide) hcl d hlk hin hsel hini hco c1 c2 c3 c4 c5 c6 c7
  rw [hvs] at hr
  refine va_calll (A0 := AL s) hr hS (fun q _ h => AL_in (wd_left hD) hS q h) (AL_in (wd_left hD) hS) (fun r1 u t H1 locs1 ht hvm hpost hB hz hk hS1 => ?_)
  obtain ⟨b1, b2, b3⟩ := hB
  rw [ht] at b1
  rw [hpost]
  obtain ⟨j1, j2, j3, j4⟩ := wl_join hP hD (AL_in (wd_left hD) hS) hk b1 b2
  have hPn := b1.app j1
  have hDn := j2.app j3 j4
  exact k h0 hm0 b3 hw2 H1 locs1 ls hPn hDn hS1 hl
theorem jl_cXA (K : KL p s m meth c b L xs D g) {as : List Value} {r : Int32} {S1 : Hp} (M : Ct l y cy mL ret' rmy mc ms (vR (some 0) :: vs) SX (QIa SX.1 (r, S1))) (hcl : zcl[5]? = some (C, T, N)) (d : decode code pc = .ok (.invokevirtual ix, 3)) (hlk : Cond.methodLink RL ix y ∈ lw_g) (hin : Cond.instanceMethod y ∈ lw_g) (hsel : Cond.selects C y y ∈ lw_g) (hini : Cond.initialized y.cls ∈ lw_g) (hco : Cond.code y cy mL ret' ∈ lw_g)
    (c1 : y.cls ≠ "java/lang/invoke/MethodHandle" ∧ y.cls ≠ "java/lang/invoke/VarHandle" ∧ (parseMethodDescriptor y.desc).map (fun d => d.parameters.length) = some n) (c2 : vs.length = n) (c3 : rmy.cells = mc) (c4 : rmy.slots = ms) (c5 : rmy.frames + 1 ≤ 2048 ∧ 8 + (mL + 11) + rmy.locals ≤ 84000) (c6 : (st.map fun v => v.category).sum ≤ 8) (c7 : cells + mc ≤ 600000 ∧ slots + ms ≤ 7302250) (h0 : 0 < S1.1 ∧ (S1.2.1 0).1 = 5) (hvs : ∀ ad, vs.map (cv g ad) = as)
    (k : ∀ ad' : Nat → Nat, (∀ k, k < SX.1 → ad' k = adX k) → JL p l e s m below meth c b D g (cells + mc) (slots + ms) (pc + 3) i (.int r :: st) S1 SM ad' adM) : JL p l e s m below meth c b D g cells slots pc i (as.reverse ++ .ref (adX 0) :: st) SX SM adX adM := by
  intro hx0 hm0 hw1 hw2 H locs ls hP hD hS hl
  obtain ⟨a, hr⟩ := rl_V (st := st) K hw1 (wl_left hP) (wd_left hD) hS hl.1 M hx0 (by decide) hcl d hlk hin hsel hini hco c1 c2 c3 c4 c5 c6 c7
  rw [hvs] at hr
  refine va_calli (A0 := AL s) hr hS (fun q _ h => AL_in (wd_left hD) hS q h) (AL_in (wd_left hD) hS) (fun r1 u t H1 locs1 ht hvm hpost hB hz hk hS1 => ?_)
  obtain ⟨b1, b2, b3⟩ := hB
  rw [ht] at b1
  obtain ⟨hx, hpost⟩ := hpost
  rw [hpost]
  obtain ⟨j1, j2, j3, j4⟩ := wl_join hP hD (AL_in (wd_left hD) hS) hk b1 b2
  have hPn := b1.app j1
  have hDn := j2.app j3 j4
  exact k u hx h0 hm0 b3 hw2 H1 locs1 ls hPn hDn hS1 (by
    have e0 : u 0 = adX 0 := hx 0 hx0.1
    simp only [lvL, e0]
    exact hl)
theorem jl_cMI (K : KL p s m meth c b L xs D g) {as : List Value} {r : Int32} {S1 : Hp} (M : Ct l y cy mL ret' rmy mc ms (vR (some 0) :: vs) SM (QI (r, S1))) (hcl : zcl[6]? = some (C, T, N)) (d : decode code pc = .ok (.invokevirtual ix, 3)) (hlk : Cond.methodLink RL ix y ∈ lw_g) (hin : Cond.instanceMethod y ∈ lw_g) (hsel : Cond.selects C y y ∈ lw_g) (hini : Cond.initialized y.cls ∈ lw_g) (hco : Cond.code y cy mL ret' ∈ lw_g)
    (c1 : y.cls ≠ "java/lang/invoke/MethodHandle" ∧ y.cls ≠ "java/lang/invoke/VarHandle" ∧ (parseMethodDescriptor y.desc).map (fun d => d.parameters.length) = some n) (c2 : vs.length = n) (c3 : rmy.cells = mc) (c4 : rmy.slots = ms) (c5 : rmy.frames + 1 ≤ 2048 ∧ 8 + (mL + 11) + rmy.locals ≤ 84000) (c6 : (st.map fun v => v.category).sum ≤ 8) (c7 : cells + mc ≤ 600000 ∧ slots + ms ≤ 7302250) (h0 : 0 < S1.1 ∧ (S1.2.1 0).1 = 6) (hvs : ∀ ad, vs.map (cv g ad) = as)
    (k : JL p l e s m below meth c b D g (cells + mc) (slots + ms) (pc + 3) i (.int r :: st) SX S1 adX adM) : JL p l e s m below meth c b D g cells slots pc i (as.reverse ++ .ref (adM 0) :: st) SX SM adX adM := by
  intro hx0 hm0 hw1 hw2 H locs ls hP hD hS hl
  have hP := swapP hP
  have hD := swapD hD
  obtain ⟨a, hr⟩ := rl_V (st := st) K hw2 (wl_left hP) (wd_left hD) hS hl.1 M hm0 (by decide) hcl d hlk hin hsel hini hco c1 c2 c3 c4 c5 c6 c7
  rw [hvs] at hr
  refine va_calli (A0 := AL s) hr hS (fun q _ h => AL_in (wd_left hD) hS q h) (AL_in (wd_left hD) hS) (fun r1 u t H1 locs1 ht hvm hpost hB hz hk hS1 => ?_)
  obtain ⟨b1, b2, b3⟩ := hB
  rw [ht] at b1
  rw [hpost]
  obtain ⟨j1, j2, j3, j4⟩ := wl_join hP hD (AL_in (wd_left hD) hS) hk b1 b2
  have hPn := b1.app j1
  have hDn := j2.app j3 j4
  have hPn := swapP hPn
  have hDn := swapD hDn
  exact k hx0 h0 hw1 b3 H1 locs1 ls hPn hDn hS1 hl
theorem jl_cML (K : KL p s m meth c b L xs D g) {as : List Value} {r : Int64} {S1 : Hp} (M : Ct l y cy mL ret' rmy mc ms (vR (some 0) :: vs) SM (QL (r, S1))) (hcl : zcl[6]? = some (C, T, N)) (d : decode code pc = .ok (.invokevirtual ix, 3)) (hlk : Cond.methodLink RL ix y ∈ lw_g) (hin : Cond.instanceMethod y ∈ lw_g) (hsel : Cond.selects C y y ∈ lw_g) (hini : Cond.initialized y.cls ∈ lw_g) (hco : Cond.code y cy mL ret' ∈ lw_g)
    (c1 : y.cls ≠ "java/lang/invoke/MethodHandle" ∧ y.cls ≠ "java/lang/invoke/VarHandle" ∧ (parseMethodDescriptor y.desc).map (fun d => d.parameters.length) = some n) (c2 : vs.length = n) (c3 : rmy.cells = mc) (c4 : rmy.slots = ms) (c5 : rmy.frames + 1 ≤ 2048 ∧ 8 + (mL + 11) + rmy.locals ≤ 84000) (c6 : (st.map fun v => v.category).sum ≤ 8) (c7 : cells + mc ≤ 600000 ∧ slots + ms ≤ 7302250) (h0 : 0 < S1.1 ∧ (S1.2.1 0).1 = 6) (hvs : ∀ ad, vs.map (cv g ad) = as)
    (k : JL p l e s m below meth c b D g (cells + mc) (slots + ms) (pc + 3) i (.long r :: st) SX S1 adX adM) : JL p l e s m below meth c b D g cells slots pc i (as.reverse ++ .ref (adM 0) :: st) SX SM adX adM := by
  intro hx0 hm0 hw1 hw2 H locs ls hP hD hS hl
  have hP := swapP hP
  have hD := swapD hD
  obtain ⟨a, hr⟩ := rl_V (st := st) K hw2 (wl_left hP) (wd_left hD) hS hl.1 M hm0 (by decide) hcl d hlk hin hsel hini hco c1 c2 c3 c4 c5 c6 c7
  rw [hvs] at hr
  refine va_calll (A0 := AL s) hr hS (fun q _ h => AL_in (wd_left hD) hS q h) (AL_in (wd_left hD) hS) (fun r1 u t H1 locs1 ht hvm hpost hB hz hk hS1 => ?_)
  obtain ⟨b1, b2, b3⟩ := hB
  rw [ht] at b1
  rw [hpost]
  obtain ⟨j1, j2, j3, j4⟩ := wl_join hP hD (AL_in (wd_left hD) hS) hk b1 b2
  have hPn := b1.app j1
  have hDn := j2.app j3 j4
  have hPn := swapP hPn
  have hDn := swapD hDn
  exact k hx0 h0 hw1 b3 H1 locs1 ls hPn hDn hS1 hl
end ZL
/-- the two answer alike, and stay alike -/
def Al_count (Rel : Hp → Hp → Prop) (fu : Nat) : Prop := (∀ (SX SM : Hp), Rel SX SM → ∀ a1 : Int32, ∃ (r : Int32) (SX1 SM1 : Hp), F_X7_count SX 0 a1 = some (r, SX1) ∧ F_X8_count SM 0 a1 = some (r, SM1) ∧ Rel SX1 SM1)
def Al_wrong (Rel : Hp → Hp → Prop) (fu : Nat) : Prop := (∀ (SX SM : Hp), Rel SX SM → ∀ a1 a2 a3 : Int32, ∃ (r : Int32) (SX1 SM1 : Hp), F_X7_wrong SX 0 a1 a2 a3 = some (r, SX1) ∧ F_X8_wrong SM 0 a1 a2 a3 = some (r, SM1) ∧ Rel SX1 SM1)
def Al_deed (Rel : Hp → Hp → Prop) (fu : Nat) : Prop := (∀ (SX SM : Hp), Rel SX SM → ∀ a1 a2 : Int32, ∃ (r : Int32) (SX1 SM1 : Hp), F_X7_deed SX 0 a1 a2 = some (r, SX1) ∧ F_X8_deed SM 0 a1 a2 = some (r, SM1) ∧ Rel SX1 SM1)
def Al_amend (Rel : Hp → Hp → Prop) (fu : Nat) : Prop := (∀ (SX SM : Hp), Rel SX SM → ∀ a1 : Int32, ∃ (r : Int32) (SX1 SM1 : Hp), F_X7_amend fu SX 0 a1 = some (r, SX1) ∧ F_X8_amend fu SM 0 a1 = some (r, SM1) ∧ Rel SX1 SM1)
def Al_feed (Rel : Hp → Hp → Prop) (fu : Nat) : Prop := (∀ (SX SM : Hp), Rel SX SM → ∀ a1 a2 a3 a4 a5 a6 : Int32, ∃ (r : Int32) (SX1 SM1 : Hp), F_X7_feed fu SX 0 a1 a2 a3 a4 a5 a6 = some (r, SX1) ∧ F_X8_feed fu SM 0 a1 a2 a3 a4 a5 a6 = some (r, SM1) ∧ Rel SX1 SM1)
def Al_text (Rel : Hp → Hp → Prop) (fu : Nat) : Prop := (∀ (SX SM : Hp), Rel SX SM → ∃ (r : Int32) (SX1 SM1 : Hp), F_X7_text fu SX 0 = some (r, SX1) ∧ F_X8_text fu SM 0 = some (r, SM1) ∧ Rel SX1 SM1)
def Al_force (Rel : Hp → Hp → Prop) (fu : Nat) : Prop := (∀ (SX SM : Hp), Rel SX SM → ∀ a1 : Int32, ∃ (r : Int32) (SX1 SM1 : Hp), F_X7_force SX 0 a1 = some (r, SX1) ∧ F_X8_force SM 0 a1 = some (r, SM1) ∧ Rel SX1 SM1)
def Al_asks (Rel : Hp → Hp → Prop) (fu : Nat) : Prop := (∀ (SX SM : Hp), Rel SX SM → ∀ a1 a2 a3 : Int32, ∃ (r : Int32) (SX1 SM1 : Hp), F_X7_asks fu SX 0 a1 a2 a3 = some (r, SX1) ∧ F_X8_asks fu SM 0 a1 a2 a3 = some (r, SM1) ∧ Rel SX1 SM1)
def Al_person (Rel : Hp → Hp → Prop) (fu : Nat) : Prop := (∀ (SX SM : Hp), Rel SX SM → ∀ a1 a2 : Int32, ∃ (r : Int32) (SX1 SM1 : Hp), F_X7_person SX 0 a1 a2 = some (r, SX1) ∧ F_X8_person SM 0 a1 a2 = some (r, SM1) ∧ Rel SX1 SM1)
def Al_put (Rel : Hp → Hp → Prop) (fu : Nat) : Prop := (∀ (SX SM : Hp), Rel SX SM → ∀ a1 a2 a3 : Int32, ∃ (r : Int32) (SX1 SM1 : Hp), F_X7_put SX 0 a1 a2 a3 = some (r, SX1) ∧ F_X8_put SM 0 a1 a2 a3 = some (r, SM1) ∧ Rel SX1 SM1)
def Al_told (Rel : Hp → Hp → Prop) (fu : Nat) : Prop := (∀ (SX SM : Hp), Rel SX SM → ∀ a1 a2 : Int32, ∃ (r : Int32) (SX1 SM1 : Hp), F_X7_told fu SX 0 a1 a2 = some (r, SX1) ∧ F_X8_told fu SM 0 a1 a2 = some (r, SM1) ∧ Rel SX1 SM1)
def Al_dusk (Rel : Hp → Hp → Prop) (fu : Nat) : Prop := (∀ (SX SM : Hp), Rel SX SM → ∀ a1 a2 : Int32, ∃ (r : Int32) (SX1 SM1 : Hp), F_X7_dusk fu SX 0 a1 a2 = some (r, SX1) ∧ F_X8_dusk fu SM 0 a1 a2 = some (r, SM1) ∧ Rel SX1 SM1)
def Al_town (Rel : Hp → Hp → Prop) (fu : Nat) : Prop := (∀ (SX SM : Hp), Rel SX SM → ∀ a1 : Int32, ∃ (r : Int32) (SX1 SM1 : Hp), F_X7_town fu SX 0 a1 = some (r, SX1) ∧ F_X8_town fu SM 0 a1 = some (r, SM1) ∧ Rel SX1 SM1)
def Al_night (Rel : Hp → Hp → Prop) (fu : Nat) : Prop := (∀ (SX SM : Hp), Rel SX SM → ∃ (r : Int32) (SX1 SM1 : Hp), F_X7_night fu SX 0 = some (r, SX1) ∧ F_X8_night fu SM 0 = some (r, SM1) ∧ Rel SX1 SM1)
def Al_best (Rel : Hp → Hp → Prop) (fu : Nat) : Prop := (∀ (SX SM : Hp), Rel SX SM → ∀ a1 a2 : Int32, ∃ (r : Int32) (SX1 SM1 : Hp), F_X7_best fu SX 0 a1 a2 = some (r, SX1) ∧ F_X8_best fu SM 0 a1 a2 = some (r, SM1) ∧ Rel SX1 SM1)
def Al_few (Rel : Hp → Hp → Prop) (fu : Nat) : Prop := (∀ (SX SM : Hp), Rel SX SM → ∀ a1 : Int32, ∃ (r : Int32) (SX1 SM1 : Hp), F_X7_few fu SX 0 a1 = some (r, SX1) ∧ F_X8_few fu SM 0 a1 = some (r, SM1) ∧ Rel SX1 SM1)
def Al_hire (Rel : Hp → Hp → Prop) (fu : Nat) : Prop := (∀ (SX SM : Hp), Rel SX SM → ∀ a1 a2 : Int32, ∃ (r : Int32) (SX1 SM1 : Hp), F_X7_hire fu SX 0 a1 a2 = some (r, SX1) ∧ F_X8_hire fu SM 0 a1 a2 = some (r, SM1) ∧ Rel SX1 SM1)
def Al_away (Rel : Hp → Hp → Prop) (fu : Nat) : Prop := (∀ (SX SM : Hp), Rel SX SM → ∀ a1 : Int32, ∃ (r : Int32) (SX1 SM1 : Hp), F_X7_away fu SX 0 a1 = some (r, SX1) ∧ F_X8_away fu SM 0 a1 = some (r, SM1) ∧ Rel SX1 SM1)
def Al_undone (Rel : Hp → Hp → Prop) (fu : Nat) : Prop := (∀ (SX SM : Hp), Rel SX SM → ∀ a1 : Int32, ∃ (r : Int32) (SX1 SM1 : Hp), F_X7_undone fu SX 0 a1 = some (r, SX1) ∧ F_X8_undone fu SM 0 a1 = some (r, SM1) ∧ Rel SX1 SM1)
def Al_pair (Rel : Hp → Hp → Prop) (fu : Nat) : Prop := (∀ (SX SM : Hp), Rel SX SM → ∀ a1 : Int32, ∃ (r : Int32) (SX1 SM1 : Hp), F_X7_pair fu SX 0 a1 = some (r, SX1) ∧ F_X8_pair fu SM 0 a1 = some (r, SM1) ∧ Rel SX1 SM1)
def Al_guess (Rel : Hp → Hp → Prop) (fu : Nat) : Prop := (∀ (SX SM : Hp), Rel SX SM → ∀ a1 a2 a3 : Int32, ∃ (r : Int32) (SX1 SM1 : Hp), F_X7_guess fu SX 0 a1 a2 a3 = some (r, SX1) ∧ F_X8_guess fu SM 0 a1 a2 a3 = some (r, SM1) ∧ Rel SX1 SM1)
def Al_likely (Rel : Hp → Hp → Prop) (fu : Nat) : Prop := (∀ (SX SM : Hp), Rel SX SM → ∀ a1 a2 a3 a4 : Int32, ∃ (r : Int64) (SX1 SM1 : Hp), F_X7_likely fu SX 0 a1 a2 a3 a4 = some (r, SX1) ∧ F_X8_likely fu SM 0 a1 a2 a3 a4 = some (r, SM1) ∧ Rel SX1 SM1)
def Al_share (Rel : Hp → Hp → Prop) (fu : Nat) : Prop := (∀ (SX SM : Hp), Rel SX SM → ∀ a1 a2 : Int32, ∃ (r : Int64) (SX1 SM1 : Hp), F_X7_share fu SX 0 a1 a2 = some (r, SX1) ∧ F_X8_share fu SM 0 a1 a2 = some (r, SM1) ∧ Rel SX1 SM1)
def Al_judge (Rel : Hp → Hp → Prop) (fu : Nat) : Prop := (∀ (SX SM : Hp), Rel SX SM → ∀ a1 : Int32, ∃ (r : Int32) (SX1 SM1 : Hp), F_X7_judge fu SX 0 a1 = some (r, SX1) ∧ F_X8_judge fu SM 0 a1 = some (r, SM1) ∧ Rel SX1 SM1)
def Al_kinds (Rel : Hp → Hp → Prop) (fu : Nat) : Prop := (∀ (SX SM : Hp), Rel SX SM → ∀ a1 a2 a3 : Int32, ∃ (r : Int32) (SX1 SM1 : Hp), F_X7_kinds fu SX 0 a1 a2 a3 = some (r, SX1) ∧ F_X8_kinds fu SM 0 a1 a2 a3 = some (r, SM1) ∧ Rel SX1 SM1)
def Al_prides (Rel : Hp → Hp → Prop) (fu : Nat) : Prop := (∀ (SX SM : Hp), Rel SX SM → ∀ a1 a2 a3 : Int32, ∃ (r : Int32) (SX1 SM1 : Hp), F_X7_prides fu SX 0 a1 a2 a3 = some (r, SX1) ∧ F_X8_prides fu SM 0 a1 a2 a3 = some (r, SM1) ∧ Rel SX1 SM1)
def Al_whose (Rel : Hp → Hp → Prop) (fu : Nat) : Prop := (∀ (SX SM : Hp), Rel SX SM → ∀ a1 a2 a3 : Int32, ∃ (r : Int32) (SX1 SM1 : Hp), F_X7_whose fu SX 0 a1 a2 a3 = some (r, SX1) ∧ F_X8_whose fu SM 0 a1 a2 a3 = some (r, SM1) ∧ Rel SX1 SM1)
def Al_laws (Rel : Hp → Hp → Prop) (fu : Nat) : Prop := (∀ (SX SM : Hp), Rel SX SM → ∀ a1 : Int32, ∃ (r : Int32) (SX1 SM1 : Hp), F_X7_laws fu SX 0 a1 = some (r, SX1) ∧ F_X8_laws fu SM 0 a1 = some (r, SM1) ∧ Rel SX1 SM1)
def Al_film (Rel : Hp → Hp → Prop) (fu : Nat) : Prop := (∀ (SX SM : Hp), Rel SX SM → ∀ a1 : Int32, ∃ (r : Int32) (SX1 SM1 : Hp), F_X7_film fu SX 0 a1 = some (r, SX1) ∧ F_X8_film fu SM 0 a1 = some (r, SM1) ∧ Rel SX1 SM1)
def Al_drawn (Rel : Hp → Hp → Prop) (fu : Nat) : Prop := (∀ (SX SM : Hp), Rel SX SM → ∀ a1 a2 : Int32, ∃ (r : Int32) (SX1 SM1 : Hp), F_X7_drawn fu SX 0 a1 a2 = some (r, SX1) ∧ F_X8_drawn fu SM 0 a1 a2 = some (r, SM1) ∧ Rel SX1 SM1)
def Al_odds (Rel : Hp → Hp → Prop) (fu : Nat) : Prop := (∀ (SX SM : Hp), Rel SX SM → ∀ a1 a2 a3 a4 : Int32, ∃ (r : Int64) (SX1 SM1 : Hp), F_X7_odds fu SX 0 a1 a2 a3 a4 = some (r, SX1) ∧ F_X8_odds fu SM 0 a1 a2 a3 a4 = some (r, SM1) ∧ Rel SX1 SM1)
def Al_image (Rel : Hp → Hp → Prop) (fu : Nat) : Prop := (∀ (SX SM : Hp), Rel SX SM → ∃ (r : Int32) (SX1 SM1 : Hp), F_X7_image fu SX 0 = some (r, SX1) ∧ F_X8_image fu SM 0 = some (r, SM1) ∧ Rel SX1 SM1)
def Al_back (Rel : Hp → Hp → Prop) (fu : Nat) : Prop := (∀ (SX SM : Hp), Rel SX SM → ∃ (r : Int32) (SX1 SM1 : Hp), F_X7_back fu SX 0 = some (r, SX1) ∧ F_X8_back fu SM 0 = some (r, SM1) ∧ Rel SX1 SM1)
def Al_sheet (Rel : Hp → Hp → Prop) (fu : Nat) : Prop := (∀ (SX SM : Hp), Rel SX SM → ∀ a1 a2 a3 : Int32, ∃ (r : Int32) (SX1 SM1 : Hp), F_X7_sheet fu SX 0 a1 a2 a3 = some (r, SX1) ∧ F_X8_sheet fu SM 0 a1 a2 a3 = some (r, SM1) ∧ Rel SX1 SM1)
def Al_cell (Rel : Hp → Hp → Prop) (fu : Nat) : Prop := (∀ (SX SM : Hp), Rel SX SM → ∀ a1 a2 a3 : Int32, ∃ (r : Int32) (SX1 SM1 : Hp), F_X7_cell SX 0 a1 a2 a3 = some (r, SX1) ∧ F_X8_cell SM 0 a1 a2 a3 = some (r, SM1) ∧ Rel SX1 SM1)
def Al_copy (Rel : Hp → Hp → Prop) (fu : Nat) : Prop := (∀ (SX SM : Hp), Rel SX SM → ∀ a1 a2 a3 a4 a5 : Int32, ∃ (r : Int32) (SX1 SM1 : Hp), F_X7_copy SX 0 a1 a2 a3 a4 a5 = some (r, SX1) ∧ F_X8_copy fu SM 0 a1 a2 a3 a4 a5 = some (r, SM1) ∧ Rel SX1 SM1)
def Al_peopleBy (Rel : Hp → Hp → Prop) (fu : Nat) : Prop := (∀ (SX SM : Hp), Rel SX SM → ∀ a1 a2 a3 a4 : Int32, ∃ (r : Int32) (SX1 SM1 : Hp), F_X7_peopleBy fu SX 0 a1 a2 a3 a4 = some (r, SX1) ∧ F_X8_peopleBy fu SM 0 a1 a2 a3 a4 = some (r, SM1) ∧ Rel SX1 SM1)
def Al_taken (Rel : Hp → Hp → Prop) (fu : Nat) : Prop := (∀ (SX SM : Hp), Rel SX SM → ∀ a1 a2 : Int32, ∃ (r : Int32) (SX1 SM1 : Hp), F_X7_taken fu SX 0 a1 a2 = some (r, SX1) ∧ F_X8_taken SM 0 a1 a2 = some (r, SM1) ∧ Rel SX1 SM1)
def AllB (Rel : Hp → Hp → Prop) (fu : Nat) : Prop := (∀ SX SM, Rel SX SM → (0 < SX.1 ∧ (SX.2.1 0).1 = 5) ∧ (0 < SM.1 ∧ (SM.2.1 0).1 = 6)) ∧ Al_count Rel fu ∧ Al_wrong Rel fu ∧ Al_deed Rel fu ∧ Al_amend Rel fu ∧ Al_feed Rel fu ∧ Al_text Rel fu ∧ Al_force Rel fu ∧ Al_asks Rel fu ∧ Al_person Rel fu ∧ Al_put Rel fu ∧ Al_told Rel fu ∧ Al_dusk Rel fu ∧ Al_town Rel fu ∧ Al_night Rel fu ∧ Al_best Rel fu ∧ Al_few Rel fu ∧ Al_hire Rel fu ∧ Al_away Rel fu ∧ Al_undone Rel fu ∧ Al_pair Rel fu ∧ Al_guess Rel fu ∧ Al_likely Rel fu ∧ Al_share Rel fu ∧ Al_judge Rel fu ∧ Al_kinds Rel fu ∧ Al_prides Rel fu ∧ Al_whose Rel fu ∧ Al_laws Rel fu ∧ Al_film Rel fu ∧ Al_drawn Rel fu ∧ Al_odds Rel fu ∧ Al_image Rel fu ∧ Al_back Rel fu ∧ Al_sheet Rel fu ∧ Al_cell Rel fu ∧ Al_copy Rel fu ∧ Al_peopleBy Rel fu ∧ Al_taken Rel fu
set_option maxRecDepth 100000 in
set_option maxHeartbeats 4000000 in
theorem cs_count {p : Program} {l : Launch} {e : Env} {s : State} {m : MethodId} {below : List Frame} {meth : Method} {c : Code} {b L : Nat} {xs : Nat → Int32} {D : va_G} {g : Gt} {cells slots : Nat} {i : Int32} {SX SM : Hp} {adX adM : Nat → Nat} {Rel : Hp → Hp → Prop} {fu : Nat} (K : KL p s m meth c b L xs D g) (hB : Al_count Rel fu) (h0 : ∀ SX SM, Rel SX SM → (0 < SX.1 ∧ (SX.2.1 0).1 = 5) ∧ (0 < SM.1 ∧ (SM.2.1 0).1 = 6)) (hR : Rel SX SM) (hi : ∀ v : Int32, 0 ≤ v → v ≤ 6 → vp_in (i + v) L) (hc : cells + 0 ≤ 600000 ∧ slots + 0 ≤ 7302250)
    (k : ∀ (SX1 SM1 : Hp) (adX1 : Nat → Nat), Rel SX1 SM1 → JL p l e s m below meth c b D g (cells + 0) (slots + 0) 1489 i [] SX1 SM1 adX1 adM) : JL p l e s m below meth c b D g cells slots 200 i [] SX SM adX adM := by
  obtain ⟨r, SX1, SM1, hX, hM, hR1⟩ := hB SX SM hR (xs (i + (1 : Int32)).toNatClampNeg)
  have hz1 := h0 _ _ hR1
  refine jl_a1 K dL_200 ?_
  refine jl_a0 K dL_201 ?_
  refine jl_i3 K dL_202 ?_
  refine jl_iconst (v := (1 : Int32)) K dL_203 (by decide) ?_
  refine jl_iadd K dL_204 ?_
  refine jl_ld K dL_205 (hi 1 (by decide) (by decide)) ?_
  refine jl_cXI (st := []) (vs := [vI (xs (i + (1 : Int32)).toNatClampNeg)]) (as := [.int (xs (i + (1 : Int32)).toNatClampNeg)]) (n := 1) K (c_X7_count hX) rfl dL_206 z403 z404 z405 z1 z406 zd_X7_count rfl rfl rfl ⟨by decide, by decide⟩ (Nat.le_of_ble_eq_true rfl) (by constructor <;> omega) hz1.1 (fun _ => rfl) ?_
  refine jl_a2 K dL_209 ?_
  refine jl_a0 K dL_210 ?_
  refine jl_i3 K dL_211 ?_
  refine jl_iconst (v := (1 : Int32)) K dL_212 (by decide) ?_
  refine jl_iadd K dL_213 ?_
  refine jl_ld K dL_214 (hi 1 (by decide) (by decide)) ?_
  refine jl_cMI (st := [.int r]) (vs := [vI (xs (i + (1 : Int32)).toNatClampNeg)]) (as := [.int (xs (i + (1 : Int32)).toNatClampNeg)]) (n := 1) K (c_X8_count hM) rfl dL_215 z963 z964 z965 z13 z966 zd_X8_count rfl rfl rfl ⟨by decide, by decide⟩ (Nat.le_of_ble_eq_true rfl) (by constructor <;> omega) hz1.2 (fun _ => rfl) ?_
  refine jl_eq (tgt := 1489) K dL_218 (by decide) ?_
  exact k SX1 SM1 adX hR1
set_option maxRecDepth 100000 in
set_option maxHeartbeats 4000000 in
theorem cs_wrong {p : Program} {l : Launch} {e : Env} {s : State} {m : MethodId} {below : List Frame} {meth : Method} {c : Code} {b L : Nat} {xs : Nat → Int32} {D : va_G} {g : Gt} {cells slots : Nat} {i : Int32} {SX SM : Hp} {adX adM : Nat → Nat} {Rel : Hp → Hp → Prop} {fu : Nat} (K : KL p s m meth c b L xs D g) (hB : Al_wrong Rel fu) (h0 : ∀ SX SM, Rel SX SM → (0 < SX.1 ∧ (SX.2.1 0).1 = 5) ∧ (0 < SM.1 ∧ (SM.2.1 0).1 = 6)) (hR : Rel SX SM) (hi : ∀ v : Int32, 0 ≤ v → v ≤ 6 → vp_in (i + v) L) (hc : cells + 0 ≤ 600000 ∧ slots + 0 ≤ 7302250)
    (k : ∀ (SX1 SM1 : Hp) (adX1 : Nat → Nat), Rel SX1 SM1 → JL p l e s m below meth c b D g (cells + 0) (slots + 0) 1489 i [] SX1 SM1 adX1 adM) : JL p l e s m below meth c b D g cells slots 223 i [] SX SM adX adM := by
  obtain ⟨r, SX1, SM1, hX, hM, hR1⟩ := hB SX SM hR (xs (i + (1 : Int32)).toNatClampNeg) (xs (i + (2 : Int32)).toNatClampNeg) (xs (i + (3 : Int32)).toNatClampNeg)
  have hz1 := h0 _ _ hR1
  refine jl_a1 K dL_223 ?_
  refine jl_a0 K dL_224 ?_
  refine jl_i3 K dL_225 ?_
  refine jl_iconst (v := (1 : Int32)) K dL_226 (by decide) ?_
  refine jl_iadd K dL_227 ?_
  refine jl_ld K dL_228 (hi 1 (by decide) (by decide)) ?_
  refine jl_a0 K dL_229 ?_
  refine jl_i3 K dL_230 ?_
  refine jl_iconst (v := (2 : Int32)) K dL_231 (by decide) ?_
  refine jl_iadd K dL_232 ?_
  refine jl_ld K dL_233 (hi 2 (by decide) (by decide)) ?_
  refine jl_a0 K dL_234 ?_
  refine jl_i3 K dL_235 ?_
  refine jl_iconst (v := (3 : Int32)) K dL_236 (by decide) ?_
  refine jl_iadd K dL_237 ?_
  refine jl_ld K dL_238 (hi 3 (by decide) (by decide)) ?_
  refine jl_cXI (st := []) (vs := [vI (xs (i + (1 : Int32)).toNatClampNeg), vI (xs (i + (2 : Int32)).toNatClampNeg), vI (xs (i + (3 : Int32)).toNatClampNeg)]) (as := [.int (xs (i + (1 : Int32)).toNatClampNeg), .int (xs (i + (2 : Int32)).toNatClampNeg), .int (xs (i + (3 : Int32)).toNatClampNeg)]) (n := 3) K (c_X7_wrong hX) rfl dL_239 z407 z408 z409 z1 z410 zd_X7_wrong rfl rfl rfl ⟨by decide, by decide⟩ (Nat.le_of_ble_eq_true rfl) (by constructor <;> omega) hz1.1 (fun _ => rfl) ?_
  refine jl_a2 K dL_242 ?_
  refine jl_a0 K dL_243 ?_
  refine jl_i3 K dL_244 ?_
  refine jl_iconst (v := (1 : Int32)) K dL_245 (by decide) ?_
  refine jl_iadd K dL_246 ?_
  refine jl_ld K dL_247 (hi 1 (by decide) (by decide)) ?_
  refine jl_a0 K dL_248 ?_
  refine jl_i3 K dL_249 ?_
  refine jl_iconst (v := (2 : Int32)) K dL_250 (by decide) ?_
  refine jl_iadd K dL_251 ?_
  refine jl_ld K dL_252 (hi 2 (by decide) (by decide)) ?_
  refine jl_a0 K dL_253 ?_
  refine jl_i3 K dL_254 ?_
  refine jl_iconst (v := (3 : Int32)) K dL_255 (by decide) ?_
  refine jl_iadd K dL_256 ?_
  refine jl_ld K dL_257 (hi 3 (by decide) (by decide)) ?_
  refine jl_cMI (st := [.int r]) (vs := [vI (xs (i + (1 : Int32)).toNatClampNeg), vI (xs (i + (2 : Int32)).toNatClampNeg), vI (xs (i + (3 : Int32)).toNatClampNeg)]) (as := [.int (xs (i + (1 : Int32)).toNatClampNeg), .int (xs (i + (2 : Int32)).toNatClampNeg), .int (xs (i + (3 : Int32)).toNatClampNeg)]) (n := 3) K (c_X8_wrong hM) rfl dL_258 z967 z968 z969 z13 z970 zd_X8_wrong rfl rfl rfl ⟨by decide, by decide⟩ (Nat.le_of_ble_eq_true rfl) (by constructor <;> omega) hz1.2 (fun _ => rfl) ?_
  refine jl_eq (tgt := 1489) K dL_261 (by decide) ?_
  exact k SX1 SM1 adX hR1
set_option maxRecDepth 100000 in
set_option maxHeartbeats 4000000 in
theorem cs_deed {p : Program} {l : Launch} {e : Env} {s : State} {m : MethodId} {below : List Frame} {meth : Method} {c : Code} {b L : Nat} {xs : Nat → Int32} {D : va_G} {g : Gt} {cells slots : Nat} {i : Int32} {SX SM : Hp} {adX adM : Nat → Nat} {Rel : Hp → Hp → Prop} {fu : Nat} (K : KL p s m meth c b L xs D g) (hB : Al_deed Rel fu) (h0 : ∀ SX SM, Rel SX SM → (0 < SX.1 ∧ (SX.2.1 0).1 = 5) ∧ (0 < SM.1 ∧ (SM.2.1 0).1 = 6)) (hR : Rel SX SM) (hi : ∀ v : Int32, 0 ≤ v → v ≤ 6 → vp_in (i + v) L) (hc : cells + 0 ≤ 600000 ∧ slots + 0 ≤ 7302250)
    (k : ∀ (SX1 SM1 : Hp) (adX1 : Nat → Nat), Rel SX1 SM1 → JL p l e s m below meth c b D g (cells + 0) (slots + 0) 1489 i [] SX1 SM1 adX1 adM) : JL p l e s m below meth c b D g cells slots 266 i [] SX SM adX adM := by
  obtain ⟨r, SX1, SM1, hX, hM, hR1⟩ := hB SX SM hR (xs (i + (1 : Int32)).toNatClampNeg) (xs (i + (2 : Int32)).toNatClampNeg)
  have hz1 := h0 _ _ hR1
  refine jl_a1 K dL_266 ?_
  refine jl_a0 K dL_267 ?_
  refine jl_i3 K dL_268 ?_
  refine jl_iconst (v := (1 : Int32)) K dL_269 (by decide) ?_
  refine jl_iadd K dL_270 ?_
  refine jl_ld K dL_271 (hi 1 (by decide) (by decide)) ?_
  refine jl_a0 K dL_272 ?_
  refine jl_i3 K dL_273 ?_
  refine jl_iconst (v := (2 : Int32)) K dL_274 (by decide) ?_
  refine jl_iadd K dL_275 ?_
  refine jl_ld K dL_276 (hi 2 (by decide) (by decide)) ?_
  refine jl_cXI (st := []) (vs := [vI (xs (i + (1 : Int32)).toNatClampNeg), vI (xs (i + (2 : Int32)).toNatClampNeg)]) (as := [.int (xs (i + (1 : Int32)).toNatClampNeg), .int (xs (i + (2 : Int32)).toNatClampNeg)]) (n := 2) K (c_X7_deed hX) rfl dL_277 z416 z417 z418 z1 z419 zd_X7_deed rfl rfl rfl ⟨by decide, by decide⟩ (Nat.le_of_ble_eq_true rfl) (by constructor <;> omega) hz1.1 (fun _ => rfl) ?_
  refine jl_a2 K dL_280 ?_
  refine jl_a0 K dL_281 ?_
  refine jl_i3 K dL_282 ?_
  refine jl_iconst (v := (1 : Int32)) K dL_283 (by decide) ?_
  refine jl_iadd K dL_284 ?_
  refine jl_ld K dL_285 (hi 1 (by decide) (by decide)) ?_
  refine jl_a0 K dL_286 ?_
  refine jl_i3 K dL_287 ?_
  refine jl_iconst (v := (2 : Int32)) K dL_288 (by decide) ?_
  refine jl_iadd K dL_289 ?_
  refine jl_ld K dL_290 (hi 2 (by decide) (by decide)) ?_
  refine jl_cMI (st := [.int r]) (vs := [vI (xs (i + (1 : Int32)).toNatClampNeg), vI (xs (i + (2 : Int32)).toNatClampNeg)]) (as := [.int (xs (i + (1 : Int32)).toNatClampNeg), .int (xs (i + (2 : Int32)).toNatClampNeg)]) (n := 2) K (c_X8_deed hM) rfl dL_291 z971 z972 z973 z13 z974 zd_X8_deed rfl rfl rfl ⟨by decide, by decide⟩ (Nat.le_of_ble_eq_true rfl) (by constructor <;> omega) hz1.2 (fun _ => rfl) ?_
  refine jl_eq (tgt := 1489) K dL_294 (by decide) ?_
  exact k SX1 SM1 adX hR1
set_option maxRecDepth 100000 in
set_option maxHeartbeats 4000000 in
theorem cs_amend {p : Program} {l : Launch} {e : Env} {s : State} {m : MethodId} {below : List Frame} {meth : Method} {c : Code} {b L : Nat} {xs : Nat → Int32} {D : va_G} {g : Gt} {cells slots : Nat} {i : Int32} {SX SM : Hp} {adX adM : Nat → Nat} {Rel : Hp → Hp → Prop} {fu : Nat} (K : KL p s m meth c b L xs D g) (hB : Al_amend Rel fu) (h0 : ∀ SX SM, Rel SX SM → (0 < SX.1 ∧ (SX.2.1 0).1 = 5) ∧ (0 < SM.1 ∧ (SM.2.1 0).1 = 6)) (hR : Rel SX SM) (hi : ∀ v : Int32, 0 ≤ v → v ≤ 6 → vp_in (i + v) L) (hc : cells + 0 ≤ 600000 ∧ slots + 0 ≤ 7302250)
    (k : ∀ (SX1 SM1 : Hp) (adX1 : Nat → Nat), Rel SX1 SM1 → JL p l e s m below meth c b D g (cells + 0) (slots + 0) 1489 i [] SX1 SM1 adX1 adM) : JL p l e s m below meth c b D g cells slots 299 i [] SX SM adX adM := by
  obtain ⟨r, SX1, SM1, hX, hM, hR1⟩ := hB SX SM hR (xs (i + (1 : Int32)).toNatClampNeg)
  have hz1 := h0 _ _ hR1
  refine jl_a1 K dL_299 ?_
  refine jl_a0 K dL_300 ?_
  refine jl_i3 K dL_301 ?_
  refine jl_iconst (v := (1 : Int32)) K dL_302 (by decide) ?_
  refine jl_iadd K dL_303 ?_
  refine jl_ld K dL_304 (hi 1 (by decide) (by decide)) ?_
  refine jl_cXI (st := []) (vs := [vI (xs (i + (1 : Int32)).toNatClampNeg)]) (as := [.int (xs (i + (1 : Int32)).toNatClampNeg)]) (n := 1) K (c_X7_amend hX) rfl dL_305 z428 z429 z430 z1 z431 zd_X7_amend rfl rfl rfl ⟨by decide, by decide⟩ (Nat.le_of_ble_eq_true rfl) (by constructor <;> omega) hz1.1 (fun _ => rfl) ?_
  refine jl_a2 K dL_308 ?_
  refine jl_a0 K dL_309 ?_
  refine jl_i3 K dL_310 ?_
  refine jl_iconst (v := (1 : Int32)) K dL_311 (by decide) ?_
  refine jl_iadd K dL_312 ?_
  refine jl_ld K dL_313 (hi 1 (by decide) (by decide)) ?_
  refine jl_cMI (st := [.int r]) (vs := [vI (xs (i + (1 : Int32)).toNatClampNeg)]) (as := [.int (xs (i + (1 : Int32)).toNatClampNeg)]) (n := 1) K (c_X8_amend hM) rfl dL_314 z979 z980 z981 z13 z982 zd_X8_amend rfl rfl rfl ⟨by decide, by decide⟩ (Nat.le_of_ble_eq_true rfl) (by constructor <;> omega) hz1.2 (fun _ => rfl) ?_
  refine jl_eq (tgt := 1489) K dL_317 (by decide) ?_
  exact k SX1 SM1 adX hR1
set_option maxRecDepth 100000 in
set_option maxHeartbeats 4000000 in
theorem cs_feed {p : Program} {l : Launch} {e : Env} {s : State} {m : MethodId} {below : List Frame} {meth : Method} {c : Code} {b L : Nat} {xs : Nat → Int32} {D : va_G} {g : Gt} {cells slots : Nat} {i : Int32} {SX SM : Hp} {adX adM : Nat → Nat} {Rel : Hp → Hp → Prop} {fu : Nat} (K : KL p s m meth c b L xs D g) (hB : Al_feed Rel fu) (h0 : ∀ SX SM, Rel SX SM → (0 < SX.1 ∧ (SX.2.1 0).1 = 5) ∧ (0 < SM.1 ∧ (SM.2.1 0).1 = 6)) (hR : Rel SX SM) (hi : ∀ v : Int32, 0 ≤ v → v ≤ 6 → vp_in (i + v) L) (hc : cells + 0 ≤ 600000 ∧ slots + 0 ≤ 7302250)
    (k : ∀ (SX1 SM1 : Hp) (adX1 : Nat → Nat), Rel SX1 SM1 → JL p l e s m below meth c b D g (cells + 0) (slots + 0) 1489 i [] SX1 SM1 adX1 adM) : JL p l e s m below meth c b D g cells slots 322 i [] SX SM adX adM := by
  obtain ⟨r, SX1, SM1, hX, hM, hR1⟩ := hB SX SM hR (xs (i + (1 : Int32)).toNatClampNeg) (xs (i + (2 : Int32)).toNatClampNeg) (xs (i + (3 : Int32)).toNatClampNeg) (xs (i + (4 : Int32)).toNatClampNeg) (xs (i + (5 : Int32)).toNatClampNeg) (xs (i + (6 : Int32)).toNatClampNeg)
  have hz1 := h0 _ _ hR1
  refine jl_a1 K dL_322 ?_
  refine jl_a0 K dL_323 ?_
  refine jl_i3 K dL_324 ?_
  refine jl_iconst (v := (1 : Int32)) K dL_325 (by decide) ?_
  refine jl_iadd K dL_326 ?_
  refine jl_ld K dL_327 (hi 1 (by decide) (by decide)) ?_
  refine jl_a0 K dL_328 ?_
  refine jl_i3 K dL_329 ?_
  refine jl_iconst (v := (2 : Int32)) K dL_330 (by decide) ?_
  refine jl_iadd K dL_331 ?_
  refine jl_ld K dL_332 (hi 2 (by decide) (by decide)) ?_
  refine jl_a0 K dL_333 ?_
  refine jl_i3 K dL_334 ?_
  refine jl_iconst (v := (3 : Int32)) K dL_335 (by decide) ?_
  refine jl_iadd K dL_336 ?_
  refine jl_ld K dL_337 (hi 3 (by decide) (by decide)) ?_
  refine jl_a0 K dL_338 ?_
  refine jl_i3 K dL_339 ?_
  refine jl_iconst (v := (4 : Int32)) K dL_340 (by decide) ?_
  refine jl_iadd K dL_341 ?_
  refine jl_ld K dL_342 (hi 4 (by decide) (by decide)) ?_
  refine jl_a0 K dL_343 ?_
  refine jl_i3 K dL_344 ?_
  refine jl_iconst (v := (5 : Int32)) K dL_345 (by decide) ?_
  refine jl_iadd K dL_346 ?_
  refine jl_ld K dL_347 (hi 5 (by decide) (by decide)) ?_
  refine jl_a0 K dL_348 ?_
  refine jl_i3 K dL_349 ?_
  refine jl_bip (v := (6 : Int32)) K dL_350 (by decide) ?_
  refine jl_iadd K dL_352 ?_
  refine jl_ld K dL_353 (hi 6 (by decide) (by decide)) ?_
  refine jl_cXI (st := []) (vs := [vI (xs (i + (1 : Int32)).toNatClampNeg), vI (xs (i + (2 : Int32)).toNatClampNeg), vI (xs (i + (3 : Int32)).toNatClampNeg), vI (xs (i + (4 : Int32)).toNatClampNeg), vI (xs (i + (5 : Int32)).toNatClampNeg), vI (xs (i + (6 : Int32)).toNatClampNeg)]) (as := [.int (xs (i + (1 : Int32)).toNatClampNeg), .int (xs (i + (2 : Int32)).toNatClampNeg), .int (xs (i + (3 : Int32)).toNatClampNeg), .int (xs (i + (4 : Int32)).toNatClampNeg), .int (xs (i + (5 : Int32)).toNatClampNeg), .int (xs (i + (6 : Int32)).toNatClampNeg)]) (n := 6) K (c_X7_feed hX) rfl dL_354 z437 z438 z439 z1 z440 zd_X7_feed rfl rfl rfl ⟨by decide, by decide⟩ (Nat.le_of_ble_eq_true rfl) (by constructor <;> omega) hz1.1 (fun _ => rfl) ?_
  refine jl_a2 K dL_357 ?_
  refine jl_a0 K dL_358 ?_
  refine jl_i3 K dL_359 ?_
  refine jl_iconst (v := (1 : Int32)) K dL_360 (by decide) ?_
  refine jl_iadd K dL_361 ?_
  refine jl_ld K dL_362 (hi 1 (by decide) (by decide)) ?_
  refine jl_a0 K dL_363 ?_
  refine jl_i3 K dL_364 ?_
  refine jl_iconst (v := (2 : Int32)) K dL_365 (by decide) ?_
  refine jl_iadd K dL_366 ?_
  refine jl_ld K dL_367 (hi 2 (by decide) (by decide)) ?_
  refine jl_a0 K dL_368 ?_
  refine jl_i3 K dL_369 ?_
  refine jl_iconst (v := (3 : Int32)) K dL_370 (by decide) ?_
  refine jl_iadd K dL_371 ?_
  refine jl_ld K dL_372 (hi 3 (by decide) (by decide)) ?_
  refine jl_a0 K dL_373 ?_
  refine jl_i3 K dL_374 ?_
  refine jl_iconst (v := (4 : Int32)) K dL_375 (by decide) ?_
  refine jl_iadd K dL_376 ?_
  refine jl_ld K dL_377 (hi 4 (by decide) (by decide)) ?_
  refine jl_a0 K dL_378 ?_
  refine jl_i3 K dL_379 ?_
  refine jl_iconst (v := (5 : Int32)) K dL_380 (by decide) ?_
  refine jl_iadd K dL_381 ?_
  refine jl_ld K dL_382 (hi 5 (by decide) (by decide)) ?_
  refine jl_a0 K dL_383 ?_
  refine jl_i3 K dL_384 ?_
  refine jl_bip (v := (6 : Int32)) K dL_385 (by decide) ?_
  refine jl_iadd K dL_387 ?_
  refine jl_ld K dL_388 (hi 6 (by decide) (by decide)) ?_
  refine jl_cMI (st := [.int r]) (vs := [vI (xs (i + (1 : Int32)).toNatClampNeg), vI (xs (i + (2 : Int32)).toNatClampNeg), vI (xs (i + (3 : Int32)).toNatClampNeg), vI (xs (i + (4 : Int32)).toNatClampNeg), vI (xs (i + (5 : Int32)).toNatClampNeg), vI (xs (i + (6 : Int32)).toNatClampNeg)]) (as := [.int (xs (i + (1 : Int32)).toNatClampNeg), .int (xs (i + (2 : Int32)).toNatClampNeg), .int (xs (i + (3 : Int32)).toNatClampNeg), .int (xs (i + (4 : Int32)).toNatClampNeg), .int (xs (i + (5 : Int32)).toNatClampNeg), .int (xs (i + (6 : Int32)).toNatClampNeg)]) (n := 6) K (c_X8_feed hM) rfl dL_389 z987 z988 z989 z13 z990 zd_X8_feed rfl rfl rfl ⟨by decide, by decide⟩ (Nat.le_of_ble_eq_true rfl) (by constructor <;> omega) hz1.2 (fun _ => rfl) ?_
  refine jl_eq (tgt := 1489) K dL_392 (by decide) ?_
  exact k SX1 SM1 adX hR1
set_option maxRecDepth 100000 in
set_option maxHeartbeats 4000000 in
theorem cs_text {p : Program} {l : Launch} {e : Env} {s : State} {m : MethodId} {below : List Frame} {meth : Method} {c : Code} {b L : Nat} {xs : Nat → Int32} {D : va_G} {g : Gt} {cells slots : Nat} {i : Int32} {SX SM : Hp} {adX adM : Nat → Nat} {Rel : Hp → Hp → Prop} {fu : Nat} (K : KL p s m meth c b L xs D g) (hB : Al_text Rel fu) (h0 : ∀ SX SM, Rel SX SM → (0 < SX.1 ∧ (SX.2.1 0).1 = 5) ∧ (0 < SM.1 ∧ (SM.2.1 0).1 = 6)) (hR : Rel SX SM) (hi : ∀ v : Int32, 0 ≤ v → v ≤ 6 → vp_in (i + v) L) (hc : cells + 4 ≤ 600000 ∧ slots + 326 ≤ 7302250)
    (k : ∀ (SX1 SM1 : Hp) (adX1 : Nat → Nat), Rel SX1 SM1 → JL p l e s m below meth c b D g (cells + 4) (slots + 326) 1489 i [] SX1 SM1 adX1 adM) : JL p l e s m below meth c b D g cells slots 397 i [] SX SM adX adM := by
  obtain ⟨r, SX1, SM1, hX, hM, hR1⟩ := hB SX SM hR
  have hz1 := h0 _ _ hR1
  refine jl_a1 K dL_397 ?_
  refine jl_cXA (st := []) (vs := []) (as := []) (n := 0) K (c_X7_text hX) rfl dL_398 z445 z446 z447 z1 z448 zd_X7_text rfl rfl rfl ⟨by decide, by decide⟩ (Nat.le_of_ble_eq_true rfl) (by constructor <;> omega) hz1.1 (fun _ => rfl) ?_
  intro adX1 hx1
  refine jl_a2 K dL_401 ?_
  refine jl_cMI (st := [.int r]) (vs := []) (as := []) (n := 0) K (c_X8_text hM) rfl dL_402 z994 z805 z806 z13 z807 zd_X8_text rfl rfl rfl ⟨by decide, by decide⟩ (Nat.le_of_ble_eq_true rfl) (by constructor <;> omega) hz1.2 (fun _ => rfl) ?_
  refine jl_eq (tgt := 1489) K dL_405 (by decide) ?_
  exact k SX1 SM1 adX1 hR1
set_option maxRecDepth 100000 in
set_option maxHeartbeats 4000000 in
theorem cs_force {p : Program} {l : Launch} {e : Env} {s : State} {m : MethodId} {below : List Frame} {meth : Method} {c : Code} {b L : Nat} {xs : Nat → Int32} {D : va_G} {g : Gt} {cells slots : Nat} {i : Int32} {SX SM : Hp} {adX adM : Nat → Nat} {Rel : Hp → Hp → Prop} {fu : Nat} (K : KL p s m meth c b L xs D g) (hB : Al_force Rel fu) (h0 : ∀ SX SM, Rel SX SM → (0 < SX.1 ∧ (SX.2.1 0).1 = 5) ∧ (0 < SM.1 ∧ (SM.2.1 0).1 = 6)) (hR : Rel SX SM) (hi : ∀ v : Int32, 0 ≤ v → v ≤ 6 → vp_in (i + v) L) (hc : cells + 0 ≤ 600000 ∧ slots + 0 ≤ 7302250)
    (k : ∀ (SX1 SM1 : Hp) (adX1 : Nat → Nat), Rel SX1 SM1 → JL p l e s m below meth c b D g (cells + 0) (slots + 0) 1489 i [] SX1 SM1 adX1 adM) : JL p l e s m below meth c b D g cells slots 410 i [] SX SM adX adM := by
  obtain ⟨r, SX1, SM1, hX, hM, hR1⟩ := hB SX SM hR (xs (i + (1 : Int32)).toNatClampNeg)
  have hz1 := h0 _ _ hR1
  refine jl_a1 K dL_410 ?_
  refine jl_a0 K dL_411 ?_
  refine jl_i3 K dL_412 ?_
  refine jl_iconst (v := (1 : Int32)) K dL_413 (by decide) ?_
  refine jl_iadd K dL_414 ?_
  refine jl_ld K dL_415 (hi 1 (by decide) (by decide)) ?_
  refine jl_cXI (st := []) (vs := [vI (xs (i + (1 : Int32)).toNatClampNeg)]) (as := [.int (xs (i + (1 : Int32)).toNatClampNeg)]) (n := 1) K (c_X7_force hX) rfl dL_416 z449 z450 z451 z1 z452 zd_X7_force rfl rfl rfl ⟨by decide, by decide⟩ (Nat.le_of_ble_eq_true rfl) (by constructor <;> omega) hz1.1 (fun _ => rfl) ?_
  refine jl_a2 K dL_419 ?_
  refine jl_a0 K dL_420 ?_
  refine jl_i3 K dL_421 ?_
  refine jl_iconst (v := (1 : Int32)) K dL_422 (by decide) ?_
  refine jl_iadd K dL_423 ?_
  refine jl_ld K dL_424 (hi 1 (by decide) (by decide)) ?_
  refine jl_cMI (st := [.int r]) (vs := [vI (xs (i + (1 : Int32)).toNatClampNeg)]) (as := [.int (xs (i + (1 : Int32)).toNatClampNeg)]) (n := 1) K (c_X8_force hM) rfl dL_425 z995 z996 z997 z13 z998 zd_X8_force rfl rfl rfl ⟨by decide, by decide⟩ (Nat.le_of_ble_eq_true rfl) (by constructor <;> omega) hz1.2 (fun _ => rfl) ?_
  refine jl_eq (tgt := 1489) K dL_428 (by decide) ?_
  exact k SX1 SM1 adX hR1
set_option maxRecDepth 100000 in
set_option maxHeartbeats 4000000 in
theorem cs_asks {p : Program} {l : Launch} {e : Env} {s : State} {m : MethodId} {below : List Frame} {meth : Method} {c : Code} {b L : Nat} {xs : Nat → Int32} {D : va_G} {g : Gt} {cells slots : Nat} {i : Int32} {SX SM : Hp} {adX adM : Nat → Nat} {Rel : Hp → Hp → Prop} {fu : Nat} (K : KL p s m meth c b L xs D g) (hB : Al_asks Rel fu) (h0 : ∀ SX SM, Rel SX SM → (0 < SX.1 ∧ (SX.2.1 0).1 = 5) ∧ (0 < SM.1 ∧ (SM.2.1 0).1 = 6)) (hR : Rel SX SM) (hi : ∀ v : Int32, 0 ≤ v → v ≤ 6 → vp_in (i + v) L) (hc : cells + 0 ≤ 600000 ∧ slots + 0 ≤ 7302250)
    (k : ∀ (SX1 SM1 : Hp) (adX1 : Nat → Nat), Rel SX1 SM1 → JL p l e s m below meth c b D g (cells + 0) (slots + 0) 1489 i [] SX1 SM1 adX1 adM) : JL p l e s m below meth c b D g cells slots 433 i [] SX SM adX adM := by
  obtain ⟨r, SX1, SM1, hX, hM, hR1⟩ := hB SX SM hR (xs (i + (1 : Int32)).toNatClampNeg) (xs (i + (2 : Int32)).toNatClampNeg) (xs (i + (3 : Int32)).toNatClampNeg)
  have hz1 := h0 _ _ hR1
  refine jl_a1 K dL_433 ?_
  refine jl_a0 K dL_434 ?_
  refine jl_i3 K dL_435 ?_
  refine jl_iconst (v := (1 : Int32)) K dL_436 (by decide) ?_
  refine jl_iadd K dL_437 ?_
  refine jl_ld K dL_438 (hi 1 (by decide) (by decide)) ?_
  refine jl_a0 K dL_439 ?_
  refine jl_i3 K dL_440 ?_
  refine jl_iconst (v := (2 : Int32)) K dL_441 (by decide) ?_
  refine jl_iadd K dL_442 ?_
  refine jl_ld K dL_443 (hi 2 (by decide) (by decide)) ?_
  refine jl_a0 K dL_444 ?_
  refine jl_i3 K dL_445 ?_
  refine jl_iconst (v := (3 : Int32)) K dL_446 (by decide) ?_
  refine jl_iadd K dL_447 ?_
  refine jl_ld K dL_448 (hi 3 (by decide) (by decide)) ?_
  refine jl_cXI (st := []) (vs := [vI (xs (i + (1 : Int32)).toNatClampNeg), vI (xs (i + (2 : Int32)).toNatClampNeg), vI (xs (i + (3 : Int32)).toNatClampNeg)]) (as := [.int (xs (i + (1 : Int32)).toNatClampNeg), .int (xs (i + (2 : Int32)).toNatClampNeg), .int (xs (i + (3 : Int32)).toNatClampNeg)]) (n := 3) K (c_X7_asks hX) rfl dL_449 z457 z458 z459 z1 z460 zd_X7_asks rfl rfl rfl ⟨by decide, by decide⟩ (Nat.le_of_ble_eq_true rfl) (by constructor <;> omega) hz1.1 (fun _ => rfl) ?_
  refine jl_a2 K dL_452 ?_
  refine jl_a0 K dL_453 ?_
  refine jl_i3 K dL_454 ?_
  refine jl_iconst (v := (1 : Int32)) K dL_455 (by decide) ?_
  refine jl_iadd K dL_456 ?_
  refine jl_ld K dL_457 (hi 1 (by decide) (by decide)) ?_
  refine jl_a0 K dL_458 ?_
  refine jl_i3 K dL_459 ?_
  refine jl_iconst (v := (2 : Int32)) K dL_460 (by decide) ?_
  refine jl_iadd K dL_461 ?_
  refine jl_ld K dL_462 (hi 2 (by decide) (by decide)) ?_
  refine jl_a0 K dL_463 ?_
  refine jl_i3 K dL_464 ?_
  refine jl_iconst (v := (3 : Int32)) K dL_465 (by decide) ?_
  refine jl_iadd K dL_466 ?_
  refine jl_ld K dL_467 (hi 3 (by decide) (by decide)) ?_
  refine jl_cMI (st := [.int r]) (vs := [vI (xs (i + (1 : Int32)).toNatClampNeg), vI (xs (i + (2 : Int32)).toNatClampNeg), vI (xs (i + (3 : Int32)).toNatClampNeg)]) (as := [.int (xs (i + (1 : Int32)).toNatClampNeg), .int (xs (i + (2 : Int32)).toNatClampNeg), .int (xs (i + (3 : Int32)).toNatClampNeg)]) (n := 3) K (c_X8_asks hM) rfl dL_468 z999 z1000 z1001 z13 z1002 zd_X8_asks rfl rfl rfl ⟨by decide, by decide⟩ (Nat.le_of_ble_eq_true rfl) (by constructor <;> omega) hz1.2 (fun _ => rfl) ?_
  refine jl_eq (tgt := 1489) K dL_471 (by decide) ?_
  exact k SX1 SM1 adX hR1
set_option maxRecDepth 100000 in
set_option maxHeartbeats 4000000 in
theorem cs_person {p : Program} {l : Launch} {e : Env} {s : State} {m : MethodId} {below : List Frame} {meth : Method} {c : Code} {b L : Nat} {xs : Nat → Int32} {D : va_G} {g : Gt} {cells slots : Nat} {i : Int32} {SX SM : Hp} {adX adM : Nat → Nat} {Rel : Hp → Hp → Prop} {fu : Nat} (K : KL p s m meth c b L xs D g) (hB : Al_person Rel fu) (h0 : ∀ SX SM, Rel SX SM → (0 < SX.1 ∧ (SX.2.1 0).1 = 5) ∧ (0 < SM.1 ∧ (SM.2.1 0).1 = 6)) (hR : Rel SX SM) (hi : ∀ v : Int32, 0 ≤ v → v ≤ 6 → vp_in (i + v) L) (hc : cells + 0 ≤ 600000 ∧ slots + 0 ≤ 7302250)
    (k : ∀ (SX1 SM1 : Hp) (adX1 : Nat → Nat), Rel SX1 SM1 → JL p l e s m below meth c b D g (cells + 0) (slots + 0) 1489 i [] SX1 SM1 adX1 adM) : JL p l e s m below meth c b D g cells slots 476 i [] SX SM adX adM := by
  obtain ⟨r, SX1, SM1, hX, hM, hR1⟩ := hB SX SM hR (xs (i + (1 : Int32)).toNatClampNeg) (xs (i + (2 : Int32)).toNatClampNeg)
  have hz1 := h0 _ _ hR1
  refine jl_a1 K dL_476 ?_
  refine jl_a0 K dL_477 ?_
  refine jl_i3 K dL_478 ?_
  refine jl_iconst (v := (1 : Int32)) K dL_479 (by decide) ?_
  refine jl_iadd K dL_480 ?_
  refine jl_ld K dL_481 (hi 1 (by decide) (by decide)) ?_
  refine jl_a0 K dL_482 ?_
  refine jl_i3 K dL_483 ?_
  refine jl_iconst (v := (2 : Int32)) K dL_484 (by decide) ?_
  refine jl_iadd K dL_485 ?_
  refine jl_ld K dL_486 (hi 2 (by decide) (by decide)) ?_
  refine jl_cXI (st := []) (vs := [vI (xs (i + (1 : Int32)).toNatClampNeg), vI (xs (i + (2 : Int32)).toNatClampNeg)]) (as := [.int (xs (i + (1 : Int32)).toNatClampNeg), .int (xs (i + (2 : Int32)).toNatClampNeg)]) (n := 2) K (c_X7_person hX) rfl dL_487 z485 z486 z487 z1 z488 zd_X7_person rfl rfl rfl ⟨by decide, by decide⟩ (Nat.le_of_ble_eq_true rfl) (by constructor <;> omega) hz1.1 (fun _ => rfl) ?_
  refine jl_a2 K dL_490 ?_
  refine jl_a0 K dL_491 ?_
  refine jl_i3 K dL_492 ?_
  refine jl_iconst (v := (1 : Int32)) K dL_493 (by decide) ?_
  refine jl_iadd K dL_494 ?_
  refine jl_ld K dL_495 (hi 1 (by decide) (by decide)) ?_
  refine jl_a0 K dL_496 ?_
  refine jl_i3 K dL_497 ?_
  refine jl_iconst (v := (2 : Int32)) K dL_498 (by decide) ?_
  refine jl_iadd K dL_499 ?_
  refine jl_ld K dL_500 (hi 2 (by decide) (by decide)) ?_
  refine jl_cMI (st := [.int r]) (vs := [vI (xs (i + (1 : Int32)).toNatClampNeg), vI (xs (i + (2 : Int32)).toNatClampNeg)]) (as := [.int (xs (i + (1 : Int32)).toNatClampNeg), .int (xs (i + (2 : Int32)).toNatClampNeg)]) (n := 2) K (c_X8_person hM) rfl dL_501 z1024 z1025 z1026 z13 z1027 zd_X8_person rfl rfl rfl ⟨by decide, by decide⟩ (Nat.le_of_ble_eq_true rfl) (by constructor <;> omega) hz1.2 (fun _ => rfl) ?_
  refine jl_eq (tgt := 1489) K dL_504 (by decide) ?_
  exact k SX1 SM1 adX hR1
set_option maxRecDepth 100000 in
set_option maxHeartbeats 4000000 in
theorem cs_put {p : Program} {l : Launch} {e : Env} {s : State} {m : MethodId} {below : List Frame} {meth : Method} {c : Code} {b L : Nat} {xs : Nat → Int32} {D : va_G} {g : Gt} {cells slots : Nat} {i : Int32} {SX SM : Hp} {adX adM : Nat → Nat} {Rel : Hp → Hp → Prop} {fu : Nat} (K : KL p s m meth c b L xs D g) (hB : Al_put Rel fu) (h0 : ∀ SX SM, Rel SX SM → (0 < SX.1 ∧ (SX.2.1 0).1 = 5) ∧ (0 < SM.1 ∧ (SM.2.1 0).1 = 6)) (hR : Rel SX SM) (hi : ∀ v : Int32, 0 ≤ v → v ≤ 6 → vp_in (i + v) L) (hc : cells + 0 ≤ 600000 ∧ slots + 0 ≤ 7302250)
    (k : ∀ (SX1 SM1 : Hp) (adX1 : Nat → Nat), Rel SX1 SM1 → JL p l e s m below meth c b D g (cells + 0) (slots + 0) 1489 i [] SX1 SM1 adX1 adM) : JL p l e s m below meth c b D g cells slots 509 i [] SX SM adX adM := by
  obtain ⟨r, SX1, SM1, hX, hM, hR1⟩ := hB SX SM hR (xs (i + (1 : Int32)).toNatClampNeg) (xs (i + (2 : Int32)).toNatClampNeg) (xs (i + (3 : Int32)).toNatClampNeg)
  have hz1 := h0 _ _ hR1
  refine jl_a1 K dL_509 ?_
  refine jl_a0 K dL_510 ?_
  refine jl_i3 K dL_511 ?_
  refine jl_iconst (v := (1 : Int32)) K dL_512 (by decide) ?_
  refine jl_iadd K dL_513 ?_
  refine jl_ld K dL_514 (hi 1 (by decide) (by decide)) ?_
  refine jl_a0 K dL_515 ?_
  refine jl_i3 K dL_516 ?_
  refine jl_iconst (v := (2 : Int32)) K dL_517 (by decide) ?_
  refine jl_iadd K dL_518 ?_
  refine jl_ld K dL_519 (hi 2 (by decide) (by decide)) ?_
  refine jl_a0 K dL_520 ?_
  refine jl_i3 K dL_521 ?_
  refine jl_iconst (v := (3 : Int32)) K dL_522 (by decide) ?_
  refine jl_iadd K dL_523 ?_
  refine jl_ld K dL_524 (hi 3 (by decide) (by decide)) ?_
  refine jl_cXI (st := []) (vs := [vI (xs (i + (1 : Int32)).toNatClampNeg), vI (xs (i + (2 : Int32)).toNatClampNeg), vI (xs (i + (3 : Int32)).toNatClampNeg)]) (as := [.int (xs (i + (1 : Int32)).toNatClampNeg), .int (xs (i + (2 : Int32)).toNatClampNeg), .int (xs (i + (3 : Int32)).toNatClampNeg)]) (n := 3) K (c_X7_put hX) rfl dL_525 z493 z494 z495 z1 z496 zd_X7_put rfl rfl rfl ⟨by decide, by decide⟩ (Nat.le_of_ble_eq_true rfl) (by constructor <;> omega) hz1.1 (fun _ => rfl) ?_
  refine jl_a2 K dL_528 ?_
  refine jl_a0 K dL_529 ?_
  refine jl_i3 K dL_530 ?_
  refine jl_iconst (v := (1 : Int32)) K dL_531 (by decide) ?_
  refine jl_iadd K dL_532 ?_
  refine jl_ld K dL_533 (hi 1 (by decide) (by decide)) ?_
  refine jl_a0 K dL_534 ?_
  refine jl_i3 K dL_535 ?_
  refine jl_iconst (v := (2 : Int32)) K dL_536 (by decide) ?_
  refine jl_iadd K dL_537 ?_
  refine jl_ld K dL_538 (hi 2 (by decide) (by decide)) ?_
  refine jl_a0 K dL_539 ?_
  refine jl_i3 K dL_540 ?_
  refine jl_iconst (v := (3 : Int32)) K dL_541 (by decide) ?_
  refine jl_iadd K dL_542 ?_
  refine jl_ld K dL_543 (hi 3 (by decide) (by decide)) ?_
  refine jl_cMI (st := [.int r]) (vs := [vI (xs (i + (1 : Int32)).toNatClampNeg), vI (xs (i + (2 : Int32)).toNatClampNeg), vI (xs (i + (3 : Int32)).toNatClampNeg)]) (as := [.int (xs (i + (1 : Int32)).toNatClampNeg), .int (xs (i + (2 : Int32)).toNatClampNeg), .int (xs (i + (3 : Int32)).toNatClampNeg)]) (n := 3) K (c_X8_put hM) rfl dL_544 z1028 z1029 z1030 z13 z1031 zd_X8_put rfl rfl rfl ⟨by decide, by decide⟩ (Nat.le_of_ble_eq_true rfl) (by constructor <;> omega) hz1.2 (fun _ => rfl) ?_
  refine jl_eq (tgt := 1489) K dL_547 (by decide) ?_
  exact k SX1 SM1 adX hR1
set_option maxRecDepth 100000 in
set_option maxHeartbeats 4000000 in
theorem cs_told {p : Program} {l : Launch} {e : Env} {s : State} {m : MethodId} {below : List Frame} {meth : Method} {c : Code} {b L : Nat} {xs : Nat → Int32} {D : va_G} {g : Gt} {cells slots : Nat} {i : Int32} {SX SM : Hp} {adX adM : Nat → Nat} {Rel : Hp → Hp → Prop} {fu : Nat} (K : KL p s m meth c b L xs D g) (hB : Al_told Rel fu) (h0 : ∀ SX SM, Rel SX SM → (0 < SX.1 ∧ (SX.2.1 0).1 = 5) ∧ (0 < SM.1 ∧ (SM.2.1 0).1 = 6)) (hR : Rel SX SM) (hi : ∀ v : Int32, 0 ≤ v → v ≤ 6 → vp_in (i + v) L) (hc : cells + 0 ≤ 600000 ∧ slots + 0 ≤ 7302250)
    (k : ∀ (SX1 SM1 : Hp) (adX1 : Nat → Nat), Rel SX1 SM1 → JL p l e s m below meth c b D g (cells + 0) (slots + 0) 1489 i [] SX1 SM1 adX1 adM) : JL p l e s m below meth c b D g cells slots 552 i [] SX SM adX adM := by
  obtain ⟨r, SX1, SM1, hX, hM, hR1⟩ := hB SX SM hR (xs (i + (1 : Int32)).toNatClampNeg) (xs (i + (2 : Int32)).toNatClampNeg)
  have hz1 := h0 _ _ hR1
  refine jl_a1 K dL_552 ?_
  refine jl_a0 K dL_553 ?_
  refine jl_i3 K dL_554 ?_
  refine jl_iconst (v := (1 : Int32)) K dL_555 (by decide) ?_
  refine jl_iadd K dL_556 ?_
  refine jl_ld K dL_557 (hi 1 (by decide) (by decide)) ?_
  refine jl_a0 K dL_558 ?_
  refine jl_i3 K dL_559 ?_
  refine jl_iconst (v := (2 : Int32)) K dL_560 (by decide) ?_
  refine jl_iadd K dL_561 ?_
  refine jl_ld K dL_562 (hi 2 (by decide) (by decide)) ?_
  refine jl_cXI (st := []) (vs := [vI (xs (i + (1 : Int32)).toNatClampNeg), vI (xs (i + (2 : Int32)).toNatClampNeg)]) (as := [.int (xs (i + (1 : Int32)).toNatClampNeg), .int (xs (i + (2 : Int32)).toNatClampNeg)]) (n := 2) K (c_X7_told hX) rfl dL_563 z501 z502 z503 z1 z504 zd_X7_told rfl rfl rfl ⟨by decide, by decide⟩ (Nat.le_of_ble_eq_true rfl) (by constructor <;> omega) hz1.1 (fun _ => rfl) ?_
  refine jl_a2 K dL_566 ?_
  refine jl_a0 K dL_567 ?_
  refine jl_i3 K dL_568 ?_
  refine jl_iconst (v := (1 : Int32)) K dL_569 (by decide) ?_
  refine jl_iadd K dL_570 ?_
  refine jl_ld K dL_571 (hi 1 (by decide) (by decide)) ?_
  refine jl_a0 K dL_572 ?_
  refine jl_i3 K dL_573 ?_
  refine jl_iconst (v := (2 : Int32)) K dL_574 (by decide) ?_
  refine jl_iadd K dL_575 ?_
  refine jl_ld K dL_576 (hi 2 (by decide) (by decide)) ?_
  refine jl_cMI (st := [.int r]) (vs := [vI (xs (i + (1 : Int32)).toNatClampNeg), vI (xs (i + (2 : Int32)).toNatClampNeg)]) (as := [.int (xs (i + (1 : Int32)).toNatClampNeg), .int (xs (i + (2 : Int32)).toNatClampNeg)]) (n := 2) K (c_X8_told hM) rfl dL_577 z1032 z1033 z1034 z13 z1035 zd_X8_told rfl rfl rfl ⟨by decide, by decide⟩ (Nat.le_of_ble_eq_true rfl) (by constructor <;> omega) hz1.2 (fun _ => rfl) ?_
  refine jl_eq (tgt := 1489) K dL_580 (by decide) ?_
  exact k SX1 SM1 adX hR1
set_option maxRecDepth 100000 in
set_option maxHeartbeats 4000000 in
theorem cs_dusk {p : Program} {l : Launch} {e : Env} {s : State} {m : MethodId} {below : List Frame} {meth : Method} {c : Code} {b L : Nat} {xs : Nat → Int32} {D : va_G} {g : Gt} {cells slots : Nat} {i : Int32} {SX SM : Hp} {adX adM : Nat → Nat} {Rel : Hp → Hp → Prop} {fu : Nat} (K : KL p s m meth c b L xs D g) (hB : Al_dusk Rel fu) (h0 : ∀ SX SM, Rel SX SM → (0 < SX.1 ∧ (SX.2.1 0).1 = 5) ∧ (0 < SM.1 ∧ (SM.2.1 0).1 = 6)) (hR : Rel SX SM) (hi : ∀ v : Int32, 0 ≤ v → v ≤ 6 → vp_in (i + v) L) (hc : cells + 0 ≤ 600000 ∧ slots + 0 ≤ 7302250)
    (k : ∀ (SX1 SM1 : Hp) (adX1 : Nat → Nat), Rel SX1 SM1 → JL p l e s m below meth c b D g (cells + 0) (slots + 0) 1489 i [] SX1 SM1 adX1 adM) : JL p l e s m below meth c b D g cells slots 585 i [] SX SM adX adM := by
  obtain ⟨r, SX1, SM1, hX, hM, hR1⟩ := hB SX SM hR (xs (i + (1 : Int32)).toNatClampNeg) (xs (i + (2 : Int32)).toNatClampNeg)
  have hz1 := h0 _ _ hR1
  refine jl_a1 K dL_585 ?_
  refine jl_a0 K dL_586 ?_
  refine jl_i3 K dL_587 ?_
  refine jl_iconst (v := (1 : Int32)) K dL_588 (by decide) ?_
  refine jl_iadd K dL_589 ?_
  refine jl_ld K dL_590 (hi 1 (by decide) (by decide)) ?_
  refine jl_a0 K dL_591 ?_
  refine jl_i3 K dL_592 ?_
  refine jl_iconst (v := (2 : Int32)) K dL_593 (by decide) ?_
  refine jl_iadd K dL_594 ?_
  refine jl_ld K dL_595 (hi 2 (by decide) (by decide)) ?_
  refine jl_cXI (st := []) (vs := [vI (xs (i + (1 : Int32)).toNatClampNeg), vI (xs (i + (2 : Int32)).toNatClampNeg)]) (as := [.int (xs (i + (1 : Int32)).toNatClampNeg), .int (xs (i + (2 : Int32)).toNatClampNeg)]) (n := 2) K (c_X7_dusk hX) rfl dL_596 z513 z514 z515 z1 z516 zd_X7_dusk rfl rfl rfl ⟨by decide, by decide⟩ (Nat.le_of_ble_eq_true rfl) (by constructor <;> omega) hz1.1 (fun _ => rfl) ?_
  refine jl_a2 K dL_599 ?_
  refine jl_a0 K dL_600 ?_
  refine jl_i3 K dL_601 ?_
  refine jl_iconst (v := (1 : Int32)) K dL_602 (by decide) ?_
  refine jl_iadd K dL_603 ?_
  refine jl_ld K dL_604 (hi 1 (by decide) (by decide)) ?_
  refine jl_a0 K dL_605 ?_
  refine jl_i3 K dL_606 ?_
  refine jl_iconst (v := (2 : Int32)) K dL_607 (by decide) ?_
  refine jl_iadd K dL_608 ?_
  refine jl_ld K dL_609 (hi 2 (by decide) (by decide)) ?_
  refine jl_cMI (st := [.int r]) (vs := [vI (xs (i + (1 : Int32)).toNatClampNeg), vI (xs (i + (2 : Int32)).toNatClampNeg)]) (as := [.int (xs (i + (1 : Int32)).toNatClampNeg), .int (xs (i + (2 : Int32)).toNatClampNeg)]) (n := 2) K (c_X8_dusk hM) rfl dL_610 z1048 z1049 z1050 z13 z1051 zd_X8_dusk rfl rfl rfl ⟨by decide, by decide⟩ (Nat.le_of_ble_eq_true rfl) (by constructor <;> omega) hz1.2 (fun _ => rfl) ?_
  refine jl_eq (tgt := 1489) K dL_613 (by decide) ?_
  exact k SX1 SM1 adX hR1
set_option maxRecDepth 100000 in
set_option maxHeartbeats 4000000 in
theorem cs_town {p : Program} {l : Launch} {e : Env} {s : State} {m : MethodId} {below : List Frame} {meth : Method} {c : Code} {b L : Nat} {xs : Nat → Int32} {D : va_G} {g : Gt} {cells slots : Nat} {i : Int32} {SX SM : Hp} {adX adM : Nat → Nat} {Rel : Hp → Hp → Prop} {fu : Nat} (K : KL p s m meth c b L xs D g) (hB : Al_town Rel fu) (h0 : ∀ SX SM, Rel SX SM → (0 < SX.1 ∧ (SX.2.1 0).1 = 5) ∧ (0 < SM.1 ∧ (SM.2.1 0).1 = 6)) (hR : Rel SX SM) (hi : ∀ v : Int32, 0 ≤ v → v ≤ 6 → vp_in (i + v) L) (hc : cells + 0 ≤ 600000 ∧ slots + 0 ≤ 7302250)
    (k : ∀ (SX1 SM1 : Hp) (adX1 : Nat → Nat), Rel SX1 SM1 → JL p l e s m below meth c b D g (cells + 0) (slots + 0) 1489 i [] SX1 SM1 adX1 adM) : JL p l e s m below meth c b D g cells slots 618 i [] SX SM adX adM := by
  obtain ⟨r, SX1, SM1, hX, hM, hR1⟩ := hB SX SM hR (xs (i + (1 : Int32)).toNatClampNeg)
  have hz1 := h0 _ _ hR1
  refine jl_a1 K dL_618 ?_
  refine jl_a0 K dL_619 ?_
  refine jl_i3 K dL_620 ?_
  refine jl_iconst (v := (1 : Int32)) K dL_621 (by decide) ?_
  refine jl_iadd K dL_622 ?_
  refine jl_ld K dL_623 (hi 1 (by decide) (by decide)) ?_
  refine jl_cXI (st := []) (vs := [vI (xs (i + (1 : Int32)).toNatClampNeg)]) (as := [.int (xs (i + (1 : Int32)).toNatClampNeg)]) (n := 1) K (c_X7_town hX) rfl dL_624 z549 z550 z551 z1 z552 zd_X7_town rfl rfl rfl ⟨by decide, by decide⟩ (Nat.le_of_ble_eq_true rfl) (by constructor <;> omega) hz1.1 (fun _ => rfl) ?_
  refine jl_a2 K dL_627 ?_
  refine jl_a0 K dL_628 ?_
  refine jl_i3 K dL_629 ?_
  refine jl_iconst (v := (1 : Int32)) K dL_630 (by decide) ?_
  refine jl_iadd K dL_631 ?_
  refine jl_ld K dL_632 (hi 1 (by decide) (by decide)) ?_
  refine jl_cMI (st := [.int r]) (vs := [vI (xs (i + (1 : Int32)).toNatClampNeg)]) (as := [.int (xs (i + (1 : Int32)).toNatClampNeg)]) (n := 1) K (c_X8_town hM) rfl dL_633 z1084 z1085 z1086 z13 z1087 zd_X8_town rfl rfl rfl ⟨by decide, by decide⟩ (Nat.le_of_ble_eq_true rfl) (by constructor <;> omega) hz1.2 (fun _ => rfl) ?_
  refine jl_eq (tgt := 1489) K dL_636 (by decide) ?_
  exact k SX1 SM1 adX hR1
set_option maxRecDepth 100000 in
set_option maxHeartbeats 4000000 in
theorem cs_night {p : Program} {l : Launch} {e : Env} {s : State} {m : MethodId} {below : List Frame} {meth : Method} {c : Code} {b L : Nat} {xs : Nat → Int32} {D : va_G} {g : Gt} {cells slots : Nat} {i : Int32} {SX SM : Hp} {adX adM : Nat → Nat} {Rel : Hp → Hp → Prop} {fu : Nat} (K : KL p s m meth c b L xs D g) (hB : Al_night Rel fu) (h0 : ∀ SX SM, Rel SX SM → (0 < SX.1 ∧ (SX.2.1 0).1 = 5) ∧ (0 < SM.1 ∧ (SM.2.1 0).1 = 6)) (hR : Rel SX SM) (hi : ∀ v : Int32, 0 ≤ v → v ≤ 6 → vp_in (i + v) L) (hc : cells + 0 ≤ 600000 ∧ slots + 0 ≤ 7302250)
    (k : ∀ (SX1 SM1 : Hp) (adX1 : Nat → Nat), Rel SX1 SM1 → JL p l e s m below meth c b D g (cells + 0) (slots + 0) 1489 i [] SX1 SM1 adX1 adM) : JL p l e s m below meth c b D g cells slots 641 i [] SX SM adX adM := by
  obtain ⟨r, SX1, SM1, hX, hM, hR1⟩ := hB SX SM hR
  have hz1 := h0 _ _ hR1
  refine jl_a1 K dL_641 ?_
  refine jl_cXI (st := []) (vs := []) (as := []) (n := 0) K (c_X7_night hX) rfl dL_642 z572 z573 z574 z1 z575 zd_X7_night rfl rfl rfl ⟨by decide, by decide⟩ (Nat.le_of_ble_eq_true rfl) (by constructor <;> omega) hz1.1 (fun _ => rfl) ?_
  refine jl_a2 K dL_645 ?_
  refine jl_cMI (st := [.int r]) (vs := []) (as := []) (n := 0) K (c_X8_night hM) rfl dL_646 z1092 z1093 z1094 z13 z1095 zd_X8_night rfl rfl rfl ⟨by decide, by decide⟩ (Nat.le_of_ble_eq_true rfl) (by constructor <;> omega) hz1.2 (fun _ => rfl) ?_
  refine jl_eq (tgt := 1489) K dL_649 (by decide) ?_
  exact k SX1 SM1 adX hR1
set_option maxRecDepth 100000 in
set_option maxHeartbeats 4000000 in
theorem cs_best {p : Program} {l : Launch} {e : Env} {s : State} {m : MethodId} {below : List Frame} {meth : Method} {c : Code} {b L : Nat} {xs : Nat → Int32} {D : va_G} {g : Gt} {cells slots : Nat} {i : Int32} {SX SM : Hp} {adX adM : Nat → Nat} {Rel : Hp → Hp → Prop} {fu : Nat} (K : KL p s m meth c b L xs D g) (hB : Al_best Rel fu) (h0 : ∀ SX SM, Rel SX SM → (0 < SX.1 ∧ (SX.2.1 0).1 = 5) ∧ (0 < SM.1 ∧ (SM.2.1 0).1 = 6)) (hR : Rel SX SM) (hi : ∀ v : Int32, 0 ≤ v → v ≤ 6 → vp_in (i + v) L) (hc : cells + 0 ≤ 600000 ∧ slots + 0 ≤ 7302250)
    (k : ∀ (SX1 SM1 : Hp) (adX1 : Nat → Nat), Rel SX1 SM1 → JL p l e s m below meth c b D g (cells + 0) (slots + 0) 1489 i [] SX1 SM1 adX1 adM) : JL p l e s m below meth c b D g cells slots 654 i [] SX SM adX adM := by
  obtain ⟨r, SX1, SM1, hX, hM, hR1⟩ := hB SX SM hR (xs (i + (1 : Int32)).toNatClampNeg) (xs (i + (2 : Int32)).toNatClampNeg)
  have hz1 := h0 _ _ hR1
  refine jl_a1 K dL_654 ?_
  refine jl_a0 K dL_655 ?_
  refine jl_i3 K dL_656 ?_
  refine jl_iconst (v := (1 : Int32)) K dL_657 (by decide) ?_
  refine jl_iadd K dL_658 ?_
  refine jl_ld K dL_659 (hi 1 (by decide) (by decide)) ?_
  refine jl_a0 K dL_660 ?_
  refine jl_i3 K dL_661 ?_
  refine jl_iconst (v := (2 : Int32)) K dL_662 (by decide) ?_
  refine jl_iadd K dL_663 ?_
  refine jl_ld K dL_664 (hi 2 (by decide) (by decide)) ?_
  refine jl_cXI (st := []) (vs := [vI (xs (i + (1 : Int32)).toNatClampNeg), vI (xs (i + (2 : Int32)).toNatClampNeg)]) (as := [.int (xs (i + (1 : Int32)).toNatClampNeg), .int (xs (i + (2 : Int32)).toNatClampNeg)]) (n := 2) K (c_X7_best hX) rfl dL_665 z581 z582 z583 z1 z584 zd_X7_best rfl rfl rfl ⟨by decide, by decide⟩ (Nat.le_of_ble_eq_true rfl) (by constructor <;> omega) hz1.1 (fun _ => rfl) ?_
  refine jl_a2 K dL_668 ?_
  refine jl_a0 K dL_669 ?_
  refine jl_i3 K dL_670 ?_
  refine jl_iconst (v := (1 : Int32)) K dL_671 (by decide) ?_
  refine jl_iadd K dL_672 ?_
  refine jl_ld K dL_673 (hi 1 (by decide) (by decide)) ?_
  refine jl_a0 K dL_674 ?_
  refine jl_i3 K dL_675 ?_
  refine jl_iconst (v := (2 : Int32)) K dL_676 (by decide) ?_
  refine jl_iadd K dL_677 ?_
  refine jl_ld K dL_678 (hi 2 (by decide) (by decide)) ?_
  refine jl_cMI (st := [.int r]) (vs := [vI (xs (i + (1 : Int32)).toNatClampNeg), vI (xs (i + (2 : Int32)).toNatClampNeg)]) (as := [.int (xs (i + (1 : Int32)).toNatClampNeg), .int (xs (i + (2 : Int32)).toNatClampNeg)]) (n := 2) K (c_X8_best hM) rfl dL_679 z1096 z1097 z1098 z13 z1099 zd_X8_best rfl rfl rfl ⟨by decide, by decide⟩ (Nat.le_of_ble_eq_true rfl) (by constructor <;> omega) hz1.2 (fun _ => rfl) ?_
  refine jl_eq (tgt := 1489) K dL_682 (by decide) ?_
  exact k SX1 SM1 adX hR1
set_option maxRecDepth 100000 in
set_option maxHeartbeats 4000000 in
theorem cs_few {p : Program} {l : Launch} {e : Env} {s : State} {m : MethodId} {below : List Frame} {meth : Method} {c : Code} {b L : Nat} {xs : Nat → Int32} {D : va_G} {g : Gt} {cells slots : Nat} {i : Int32} {SX SM : Hp} {adX adM : Nat → Nat} {Rel : Hp → Hp → Prop} {fu : Nat} (K : KL p s m meth c b L xs D g) (hB : Al_few Rel fu) (h0 : ∀ SX SM, Rel SX SM → (0 < SX.1 ∧ (SX.2.1 0).1 = 5) ∧ (0 < SM.1 ∧ (SM.2.1 0).1 = 6)) (hR : Rel SX SM) (hi : ∀ v : Int32, 0 ≤ v → v ≤ 6 → vp_in (i + v) L) (hc : cells + 0 ≤ 600000 ∧ slots + 0 ≤ 7302250)
    (k : ∀ (SX1 SM1 : Hp) (adX1 : Nat → Nat), Rel SX1 SM1 → JL p l e s m below meth c b D g (cells + 0) (slots + 0) 1489 i [] SX1 SM1 adX1 adM) : JL p l e s m below meth c b D g cells slots 687 i [] SX SM adX adM := by
  obtain ⟨r, SX1, SM1, hX, hM, hR1⟩ := hB SX SM hR (xs (i + (1 : Int32)).toNatClampNeg)
  have hz1 := h0 _ _ hR1
  refine jl_a1 K dL_687 ?_
  refine jl_a0 K dL_688 ?_
  refine jl_i3 K dL_689 ?_
  refine jl_iconst (v := (1 : Int32)) K dL_690 (by decide) ?_
  refine jl_iadd K dL_691 ?_
  refine jl_ld K dL_692 (hi 1 (by decide) (by decide)) ?_
  refine jl_cXI (st := []) (vs := [vI (xs (i + (1 : Int32)).toNatClampNeg)]) (as := [.int (xs (i + (1 : Int32)).toNatClampNeg)]) (n := 1) K (c_X7_few hX) rfl dL_693 z594 z595 z596 z1 z597 zd_X7_few rfl rfl rfl ⟨by decide, by decide⟩ (Nat.le_of_ble_eq_true rfl) (by constructor <;> omega) hz1.1 (fun _ => rfl) ?_
  refine jl_a2 K dL_696 ?_
  refine jl_a0 K dL_697 ?_
  refine jl_i3 K dL_698 ?_
  refine jl_iconst (v := (1 : Int32)) K dL_699 (by decide) ?_
  refine jl_iadd K dL_700 ?_
  refine jl_ld K dL_701 (hi 1 (by decide) (by decide)) ?_
  refine jl_cMI (st := [.int r]) (vs := [vI (xs (i + (1 : Int32)).toNatClampNeg)]) (as := [.int (xs (i + (1 : Int32)).toNatClampNeg)]) (n := 1) K (c_X8_few hM) rfl dL_702 z1112 z1113 z1114 z13 z1115 zd_X8_few rfl rfl rfl ⟨by decide, by decide⟩ (Nat.le_of_ble_eq_true rfl) (by constructor <;> omega) hz1.2 (fun _ => rfl) ?_
  refine jl_eq (tgt := 1489) K dL_705 (by decide) ?_
  exact k SX1 SM1 adX hR1
set_option maxRecDepth 100000 in
set_option maxHeartbeats 4000000 in
theorem cs_hire {p : Program} {l : Launch} {e : Env} {s : State} {m : MethodId} {below : List Frame} {meth : Method} {c : Code} {b L : Nat} {xs : Nat → Int32} {D : va_G} {g : Gt} {cells slots : Nat} {i : Int32} {SX SM : Hp} {adX adM : Nat → Nat} {Rel : Hp → Hp → Prop} {fu : Nat} (K : KL p s m meth c b L xs D g) (hB : Al_hire Rel fu) (h0 : ∀ SX SM, Rel SX SM → (0 < SX.1 ∧ (SX.2.1 0).1 = 5) ∧ (0 < SM.1 ∧ (SM.2.1 0).1 = 6)) (hR : Rel SX SM) (hi : ∀ v : Int32, 0 ≤ v → v ≤ 6 → vp_in (i + v) L) (hc : cells + 0 ≤ 600000 ∧ slots + 0 ≤ 7302250)
    (k : ∀ (SX1 SM1 : Hp) (adX1 : Nat → Nat), Rel SX1 SM1 → JL p l e s m below meth c b D g (cells + 0) (slots + 0) 1489 i [] SX1 SM1 adX1 adM) : JL p l e s m below meth c b D g cells slots 710 i [] SX SM adX adM := by
  obtain ⟨r, SX1, SM1, hX, hM, hR1⟩ := hB SX SM hR (xs (i + (1 : Int32)).toNatClampNeg) (xs (i + (2 : Int32)).toNatClampNeg)
  have hz1 := h0 _ _ hR1
  refine jl_a1 K dL_710 ?_
  refine jl_a0 K dL_711 ?_
  refine jl_i3 K dL_712 ?_
  refine jl_iconst (v := (1 : Int32)) K dL_713 (by decide) ?_
  refine jl_iadd K dL_714 ?_
  refine jl_ld K dL_715 (hi 1 (by decide) (by decide)) ?_
  refine jl_a0 K dL_716 ?_
  refine jl_i3 K dL_717 ?_
  refine jl_iconst (v := (2 : Int32)) K dL_718 (by decide) ?_
  refine jl_iadd K dL_719 ?_
  refine jl_ld K dL_720 (hi 2 (by decide) (by decide)) ?_
  refine jl_cXI (st := []) (vs := [vI (xs (i + (1 : Int32)).toNatClampNeg), vI (xs (i + (2 : Int32)).toNatClampNeg)]) (as := [.int (xs (i + (1 : Int32)).toNatClampNeg), .int (xs (i + (2 : Int32)).toNatClampNeg)]) (n := 2) K (c_X7_hire hX) rfl dL_721 z603 z604 z605 z1 z606 zd_X7_hire rfl rfl rfl ⟨by decide, by decide⟩ (Nat.le_of_ble_eq_true rfl) (by constructor <;> omega) hz1.1 (fun _ => rfl) ?_
  refine jl_a2 K dL_724 ?_
  refine jl_a0 K dL_725 ?_
  refine jl_i3 K dL_726 ?_
  refine jl_iconst (v := (1 : Int32)) K dL_727 (by decide) ?_
  refine jl_iadd K dL_728 ?_
  refine jl_ld K dL_729 (hi 1 (by decide) (by decide)) ?_
  refine jl_a0 K dL_730 ?_
  refine jl_i3 K dL_731 ?_
  refine jl_iconst (v := (2 : Int32)) K dL_732 (by decide) ?_
  refine jl_iadd K dL_733 ?_
  refine jl_ld K dL_734 (hi 2 (by decide) (by decide)) ?_
  refine jl_cMI (st := [.int r]) (vs := [vI (xs (i + (1 : Int32)).toNatClampNeg), vI (xs (i + (2 : Int32)).toNatClampNeg)]) (as := [.int (xs (i + (1 : Int32)).toNatClampNeg), .int (xs (i + (2 : Int32)).toNatClampNeg)]) (n := 2) K (c_X8_hire hM) rfl dL_735 z1116 z1117 z1118 z13 z1119 zd_X8_hire rfl rfl rfl ⟨by decide, by decide⟩ (Nat.le_of_ble_eq_true rfl) (by constructor <;> omega) hz1.2 (fun _ => rfl) ?_
  refine jl_eq (tgt := 1489) K dL_738 (by decide) ?_
  exact k SX1 SM1 adX hR1
set_option maxRecDepth 100000 in
set_option maxHeartbeats 4000000 in
theorem cs_away {p : Program} {l : Launch} {e : Env} {s : State} {m : MethodId} {below : List Frame} {meth : Method} {c : Code} {b L : Nat} {xs : Nat → Int32} {D : va_G} {g : Gt} {cells slots : Nat} {i : Int32} {SX SM : Hp} {adX adM : Nat → Nat} {Rel : Hp → Hp → Prop} {fu : Nat} (K : KL p s m meth c b L xs D g) (hB : Al_away Rel fu) (h0 : ∀ SX SM, Rel SX SM → (0 < SX.1 ∧ (SX.2.1 0).1 = 5) ∧ (0 < SM.1 ∧ (SM.2.1 0).1 = 6)) (hR : Rel SX SM) (hi : ∀ v : Int32, 0 ≤ v → v ≤ 6 → vp_in (i + v) L) (hc : cells + 0 ≤ 600000 ∧ slots + 0 ≤ 7302250)
    (k : ∀ (SX1 SM1 : Hp) (adX1 : Nat → Nat), Rel SX1 SM1 → JL p l e s m below meth c b D g (cells + 0) (slots + 0) 1489 i [] SX1 SM1 adX1 adM) : JL p l e s m below meth c b D g cells slots 743 i [] SX SM adX adM := by
  obtain ⟨r, SX1, SM1, hX, hM, hR1⟩ := hB SX SM hR (xs (i + (1 : Int32)).toNatClampNeg)
  have hz1 := h0 _ _ hR1
  refine jl_a1 K dL_743 ?_
  refine jl_a0 K dL_744 ?_
  refine jl_i3 K dL_745 ?_
  refine jl_iconst (v := (1 : Int32)) K dL_746 (by decide) ?_
  refine jl_iadd K dL_747 ?_
  refine jl_ld K dL_748 (hi 1 (by decide) (by decide)) ?_
  refine jl_cXI (st := []) (vs := [vI (xs (i + (1 : Int32)).toNatClampNeg)]) (as := [.int (xs (i + (1 : Int32)).toNatClampNeg)]) (n := 1) K (c_X7_away hX) rfl dL_749 z614 z615 z616 z1 z617 zd_X7_away rfl rfl rfl ⟨by decide, by decide⟩ (Nat.le_of_ble_eq_true rfl) (by constructor <;> omega) hz1.1 (fun _ => rfl) ?_
  refine jl_a2 K dL_752 ?_
  refine jl_a0 K dL_753 ?_
  refine jl_i3 K dL_754 ?_
  refine jl_iconst (v := (1 : Int32)) K dL_755 (by decide) ?_
  refine jl_iadd K dL_756 ?_
  refine jl_ld K dL_757 (hi 1 (by decide) (by decide)) ?_
  refine jl_cMI (st := [.int r]) (vs := [vI (xs (i + (1 : Int32)).toNatClampNeg)]) (as := [.int (xs (i + (1 : Int32)).toNatClampNeg)]) (n := 1) K (c_X8_away hM) rfl dL_758 z1124 z1125 z1126 z13 z1127 zd_X8_away rfl rfl rfl ⟨by decide, by decide⟩ (Nat.le_of_ble_eq_true rfl) (by constructor <;> omega) hz1.2 (fun _ => rfl) ?_
  refine jl_eq (tgt := 1489) K dL_761 (by decide) ?_
  exact k SX1 SM1 adX hR1
set_option maxRecDepth 100000 in
set_option maxHeartbeats 4000000 in
theorem cs_undone {p : Program} {l : Launch} {e : Env} {s : State} {m : MethodId} {below : List Frame} {meth : Method} {c : Code} {b L : Nat} {xs : Nat → Int32} {D : va_G} {g : Gt} {cells slots : Nat} {i : Int32} {SX SM : Hp} {adX adM : Nat → Nat} {Rel : Hp → Hp → Prop} {fu : Nat} (K : KL p s m meth c b L xs D g) (hB : Al_undone Rel fu) (h0 : ∀ SX SM, Rel SX SM → (0 < SX.1 ∧ (SX.2.1 0).1 = 5) ∧ (0 < SM.1 ∧ (SM.2.1 0).1 = 6)) (hR : Rel SX SM) (hi : ∀ v : Int32, 0 ≤ v → v ≤ 6 → vp_in (i + v) L) (hc : cells + 0 ≤ 600000 ∧ slots + 0 ≤ 7302250)
    (k : ∀ (SX1 SM1 : Hp) (adX1 : Nat → Nat), Rel SX1 SM1 → JL p l e s m below meth c b D g (cells + 0) (slots + 0) 1489 i [] SX1 SM1 adX1 adM) : JL p l e s m below meth c b D g cells slots 766 i [] SX SM adX adM := by
  obtain ⟨r, SX1, SM1, hX, hM, hR1⟩ := hB SX SM hR (xs (i + (1 : Int32)).toNatClampNeg)
  have hz1 := h0 _ _ hR1
  refine jl_a1 K dL_766 ?_
  refine jl_a0 K dL_767 ?_
  refine jl_i3 K dL_768 ?_
  refine jl_iconst (v := (1 : Int32)) K dL_769 (by decide) ?_
  refine jl_iadd K dL_770 ?_
  refine jl_ld K dL_771 (hi 1 (by decide) (by decide)) ?_
  refine jl_cXI (st := []) (vs := [vI (xs (i + (1 : Int32)).toNatClampNeg)]) (as := [.int (xs (i + (1 : Int32)).toNatClampNeg)]) (n := 1) K (c_X7_undone hX) rfl dL_772 z630 z631 z632 z1 z633 zd_X7_undone rfl rfl rfl ⟨by decide, by decide⟩ (Nat.le_of_ble_eq_true rfl) (by constructor <;> omega) hz1.1 (fun _ => rfl) ?_
  refine jl_a2 K dL_775 ?_
  refine jl_a0 K dL_776 ?_
  refine jl_i3 K dL_777 ?_
  refine jl_iconst (v := (1 : Int32)) K dL_778 (by decide) ?_
  refine jl_iadd K dL_779 ?_
  refine jl_ld K dL_780 (hi 1 (by decide) (by decide)) ?_
  refine jl_cMI (st := [.int r]) (vs := [vI (xs (i + (1 : Int32)).toNatClampNeg)]) (as := [.int (xs (i + (1 : Int32)).toNatClampNeg)]) (n := 1) K (c_X8_undone hM) rfl dL_781 z1140 z1141 z1142 z13 z1143 zd_X8_undone rfl rfl rfl ⟨by decide, by decide⟩ (Nat.le_of_ble_eq_true rfl) (by constructor <;> omega) hz1.2 (fun _ => rfl) ?_
  refine jl_eq (tgt := 1489) K dL_784 (by decide) ?_
  exact k SX1 SM1 adX hR1
set_option maxRecDepth 100000 in
set_option maxHeartbeats 4000000 in
theorem cs_pair {p : Program} {l : Launch} {e : Env} {s : State} {m : MethodId} {below : List Frame} {meth : Method} {c : Code} {b L : Nat} {xs : Nat → Int32} {D : va_G} {g : Gt} {cells slots : Nat} {i : Int32} {SX SM : Hp} {adX adM : Nat → Nat} {Rel : Hp → Hp → Prop} {fu : Nat} (K : KL p s m meth c b L xs D g) (hB : Al_pair Rel fu) (h0 : ∀ SX SM, Rel SX SM → (0 < SX.1 ∧ (SX.2.1 0).1 = 5) ∧ (0 < SM.1 ∧ (SM.2.1 0).1 = 6)) (hR : Rel SX SM) (hi : ∀ v : Int32, 0 ≤ v → v ≤ 6 → vp_in (i + v) L) (hc : cells + 0 ≤ 600000 ∧ slots + 0 ≤ 7302250)
    (k : ∀ (SX1 SM1 : Hp) (adX1 : Nat → Nat), Rel SX1 SM1 → JL p l e s m below meth c b D g (cells + 0) (slots + 0) 1489 i [] SX1 SM1 adX1 adM) : JL p l e s m below meth c b D g cells slots 789 i [] SX SM adX adM := by
  obtain ⟨r, SX1, SM1, hX, hM, hR1⟩ := hB SX SM hR (xs (i + (1 : Int32)).toNatClampNeg)
  have hz1 := h0 _ _ hR1
  refine jl_a1 K dL_789 ?_
  refine jl_a0 K dL_790 ?_
  refine jl_i3 K dL_791 ?_
  refine jl_iconst (v := (1 : Int32)) K dL_792 (by decide) ?_
  refine jl_iadd K dL_793 ?_
  refine jl_ld K dL_794 (hi 1 (by decide) (by decide)) ?_
  refine jl_cXI (st := []) (vs := [vI (xs (i + (1 : Int32)).toNatClampNeg)]) (as := [.int (xs (i + (1 : Int32)).toNatClampNeg)]) (n := 1) K (c_X7_pair hX) rfl dL_795 z634 z635 z636 z1 z637 zd_X7_pair rfl rfl rfl ⟨by decide, by decide⟩ (Nat.le_of_ble_eq_true rfl) (by constructor <;> omega) hz1.1 (fun _ => rfl) ?_
  refine jl_a2 K dL_798 ?_
  refine jl_a0 K dL_799 ?_
  refine jl_i3 K dL_800 ?_
  refine jl_iconst (v := (1 : Int32)) K dL_801 (by decide) ?_
  refine jl_iadd K dL_802 ?_
  refine jl_ld K dL_803 (hi 1 (by decide) (by decide)) ?_
  refine jl_cMI (st := [.int r]) (vs := [vI (xs (i + (1 : Int32)).toNatClampNeg)]) (as := [.int (xs (i + (1 : Int32)).toNatClampNeg)]) (n := 1) K (c_X8_pair hM) rfl dL_804 z1144 z1145 z1146 z13 z1147 zd_X8_pair rfl rfl rfl ⟨by decide, by decide⟩ (Nat.le_of_ble_eq_true rfl) (by constructor <;> omega) hz1.2 (fun _ => rfl) ?_
  refine jl_eq (tgt := 1489) K dL_807 (by decide) ?_
  exact k SX1 SM1 adX hR1
set_option maxRecDepth 100000 in
set_option maxHeartbeats 4000000 in
theorem cs_guess {p : Program} {l : Launch} {e : Env} {s : State} {m : MethodId} {below : List Frame} {meth : Method} {c : Code} {b L : Nat} {xs : Nat → Int32} {D : va_G} {g : Gt} {cells slots : Nat} {i : Int32} {SX SM : Hp} {adX adM : Nat → Nat} {Rel : Hp → Hp → Prop} {fu : Nat} (K : KL p s m meth c b L xs D g) (hB : Al_guess Rel fu) (h0 : ∀ SX SM, Rel SX SM → (0 < SX.1 ∧ (SX.2.1 0).1 = 5) ∧ (0 < SM.1 ∧ (SM.2.1 0).1 = 6)) (hR : Rel SX SM) (hi : ∀ v : Int32, 0 ≤ v → v ≤ 6 → vp_in (i + v) L) (hc : cells + 0 ≤ 600000 ∧ slots + 0 ≤ 7302250)
    (k : ∀ (SX1 SM1 : Hp) (adX1 : Nat → Nat), Rel SX1 SM1 → JL p l e s m below meth c b D g (cells + 0) (slots + 0) 1489 i [] SX1 SM1 adX1 adM) : JL p l e s m below meth c b D g cells slots 812 i [] SX SM adX adM := by
  obtain ⟨r, SX1, SM1, hX, hM, hR1⟩ := hB SX SM hR (xs (i + (1 : Int32)).toNatClampNeg) (xs (i + (2 : Int32)).toNatClampNeg) (xs (i + (3 : Int32)).toNatClampNeg)
  have hz1 := h0 _ _ hR1
  refine jl_a1 K dL_812 ?_
  refine jl_a0 K dL_813 ?_
  refine jl_i3 K dL_814 ?_
  refine jl_iconst (v := (1 : Int32)) K dL_815 (by decide) ?_
  refine jl_iadd K dL_816 ?_
  refine jl_ld K dL_817 (hi 1 (by decide) (by decide)) ?_
  refine jl_a0 K dL_818 ?_
  refine jl_i3 K dL_819 ?_
  refine jl_iconst (v := (2 : Int32)) K dL_820 (by decide) ?_
  refine jl_iadd K dL_821 ?_
  refine jl_ld K dL_822 (hi 2 (by decide) (by decide)) ?_
  refine jl_a0 K dL_823 ?_
  refine jl_i3 K dL_824 ?_
  refine jl_iconst (v := (3 : Int32)) K dL_825 (by decide) ?_
  refine jl_iadd K dL_826 ?_
  refine jl_ld K dL_827 (hi 3 (by decide) (by decide)) ?_
  refine jl_cXI (st := []) (vs := [vI (xs (i + (1 : Int32)).toNatClampNeg), vI (xs (i + (2 : Int32)).toNatClampNeg), vI (xs (i + (3 : Int32)).toNatClampNeg)]) (as := [.int (xs (i + (1 : Int32)).toNatClampNeg), .int (xs (i + (2 : Int32)).toNatClampNeg), .int (xs (i + (3 : Int32)).toNatClampNeg)]) (n := 3) K (c_X7_guess hX) rfl dL_828 z643 z644 z645 z1 z646 zd_X7_guess rfl rfl rfl ⟨by decide, by decide⟩ (Nat.le_of_ble_eq_true rfl) (by constructor <;> omega) hz1.1 (fun _ => rfl) ?_
  refine jl_a2 K dL_831 ?_
  refine jl_a0 K dL_832 ?_
  refine jl_i3 K dL_833 ?_
  refine jl_iconst (v := (1 : Int32)) K dL_834 (by decide) ?_
  refine jl_iadd K dL_835 ?_
  refine jl_ld K dL_836 (hi 1 (by decide) (by decide)) ?_
  refine jl_a0 K dL_837 ?_
  refine jl_i3 K dL_838 ?_
  refine jl_iconst (v := (2 : Int32)) K dL_839 (by decide) ?_
  refine jl_iadd K dL_840 ?_
  refine jl_ld K dL_841 (hi 2 (by decide) (by decide)) ?_
  refine jl_a0 K dL_842 ?_
  refine jl_i3 K dL_843 ?_
  refine jl_iconst (v := (3 : Int32)) K dL_844 (by decide) ?_
  refine jl_iadd K dL_845 ?_
  refine jl_ld K dL_846 (hi 3 (by decide) (by decide)) ?_
  refine jl_cMI (st := [.int r]) (vs := [vI (xs (i + (1 : Int32)).toNatClampNeg), vI (xs (i + (2 : Int32)).toNatClampNeg), vI (xs (i + (3 : Int32)).toNatClampNeg)]) (as := [.int (xs (i + (1 : Int32)).toNatClampNeg), .int (xs (i + (2 : Int32)).toNatClampNeg), .int (xs (i + (3 : Int32)).toNatClampNeg)]) (n := 3) K (c_X8_guess hM) rfl dL_847 z1148 z1149 z1150 z13 z1151 zd_X8_guess rfl rfl rfl ⟨by decide, by decide⟩ (Nat.le_of_ble_eq_true rfl) (by constructor <;> omega) hz1.2 (fun _ => rfl) ?_
  refine jl_eq (tgt := 1489) K dL_850 (by decide) ?_
  exact k SX1 SM1 adX hR1
set_option maxRecDepth 100000 in
set_option maxHeartbeats 4000000 in
theorem cs_likely {p : Program} {l : Launch} {e : Env} {s : State} {m : MethodId} {below : List Frame} {meth : Method} {c : Code} {b L : Nat} {xs : Nat → Int32} {D : va_G} {g : Gt} {cells slots : Nat} {i : Int32} {SX SM : Hp} {adX adM : Nat → Nat} {Rel : Hp → Hp → Prop} {fu : Nat} (K : KL p s m meth c b L xs D g) (hB : Al_likely Rel fu) (h0 : ∀ SX SM, Rel SX SM → (0 < SX.1 ∧ (SX.2.1 0).1 = 5) ∧ (0 < SM.1 ∧ (SM.2.1 0).1 = 6)) (hR : Rel SX SM) (hi : ∀ v : Int32, 0 ≤ v → v ≤ 6 → vp_in (i + v) L) (hc : cells + 0 ≤ 600000 ∧ slots + 0 ≤ 7302250)
    (k : ∀ (SX1 SM1 : Hp) (adX1 : Nat → Nat), Rel SX1 SM1 → JL p l e s m below meth c b D g (cells + 0) (slots + 0) 1489 i [] SX1 SM1 adX1 adM) : JL p l e s m below meth c b D g cells slots 855 i [] SX SM adX adM := by
  obtain ⟨r, SX1, SM1, hX, hM, hR1⟩ := hB SX SM hR (xs (i + (1 : Int32)).toNatClampNeg) (xs (i + (2 : Int32)).toNatClampNeg) (xs (i + (3 : Int32)).toNatClampNeg) (xs (i + (4 : Int32)).toNatClampNeg)
  have hz1 := h0 _ _ hR1
  refine jl_a1 K dL_855 ?_
  refine jl_a0 K dL_856 ?_
  refine jl_i3 K dL_857 ?_
  refine jl_iconst (v := (1 : Int32)) K dL_858 (by decide) ?_
  refine jl_iadd K dL_859 ?_
  refine jl_ld K dL_860 (hi 1 (by decide) (by decide)) ?_
  refine jl_a0 K dL_861 ?_
  refine jl_i3 K dL_862 ?_
  refine jl_iconst (v := (2 : Int32)) K dL_863 (by decide) ?_
  refine jl_iadd K dL_864 ?_
  refine jl_ld K dL_865 (hi 2 (by decide) (by decide)) ?_
  refine jl_a0 K dL_866 ?_
  refine jl_i3 K dL_867 ?_
  refine jl_iconst (v := (3 : Int32)) K dL_868 (by decide) ?_
  refine jl_iadd K dL_869 ?_
  refine jl_ld K dL_870 (hi 3 (by decide) (by decide)) ?_
  refine jl_a0 K dL_871 ?_
  refine jl_i3 K dL_872 ?_
  refine jl_iconst (v := (4 : Int32)) K dL_873 (by decide) ?_
  refine jl_iadd K dL_874 ?_
  refine jl_ld K dL_875 (hi 4 (by decide) (by decide)) ?_
  refine jl_cXL (st := []) (vs := [vI (xs (i + (1 : Int32)).toNatClampNeg), vI (xs (i + (2 : Int32)).toNatClampNeg), vI (xs (i + (3 : Int32)).toNatClampNeg), vI (xs (i + (4 : Int32)).toNatClampNeg)]) (as := [.int (xs (i + (1 : Int32)).toNatClampNeg), .int (xs (i + (2 : Int32)).toNatClampNeg), .int (xs (i + (3 : Int32)).toNatClampNeg), .int (xs (i + (4 : Int32)).toNatClampNeg)]) (n := 4) K (c_X7_likely hX) rfl dL_876 z655 z656 z657 z1 z658 zd_X7_likely rfl rfl rfl ⟨by decide, by decide⟩ (Nat.le_of_ble_eq_true rfl) (by constructor <;> omega) hz1.1 (fun _ => rfl) ?_
  refine jl_a2 K dL_879 ?_
  refine jl_a0 K dL_880 ?_
  refine jl_i3 K dL_881 ?_
  refine jl_iconst (v := (1 : Int32)) K dL_882 (by decide) ?_
  refine jl_iadd K dL_883 ?_
  refine jl_ld K dL_884 (hi 1 (by decide) (by decide)) ?_
  refine jl_a0 K dL_885 ?_
  refine jl_i3 K dL_886 ?_
  refine jl_iconst (v := (2 : Int32)) K dL_887 (by decide) ?_
  refine jl_iadd K dL_888 ?_
  refine jl_ld K dL_889 (hi 2 (by decide) (by decide)) ?_
  refine jl_a0 K dL_890 ?_
  refine jl_i3 K dL_891 ?_
  refine jl_iconst (v := (3 : Int32)) K dL_892 (by decide) ?_
  refine jl_iadd K dL_893 ?_
  refine jl_ld K dL_894 (hi 3 (by decide) (by decide)) ?_
  refine jl_a0 K dL_895 ?_
  refine jl_i3 K dL_896 ?_
  refine jl_iconst (v := (4 : Int32)) K dL_897 (by decide) ?_
  refine jl_iadd K dL_898 ?_
  refine jl_ld K dL_899 (hi 4 (by decide) (by decide)) ?_
  refine jl_cML (st := [.long r]) (vs := [vI (xs (i + (1 : Int32)).toNatClampNeg), vI (xs (i + (2 : Int32)).toNatClampNeg), vI (xs (i + (3 : Int32)).toNatClampNeg), vI (xs (i + (4 : Int32)).toNatClampNeg)]) (as := [.int (xs (i + (1 : Int32)).toNatClampNeg), .int (xs (i + (2 : Int32)).toNatClampNeg), .int (xs (i + (3 : Int32)).toNatClampNeg), .int (xs (i + (4 : Int32)).toNatClampNeg)]) (n := 4) K (c_X8_likely hM) rfl dL_900 z1152 z1153 z1154 z13 z1155 zd_X8_likely rfl rfl rfl ⟨by decide, by decide⟩ (Nat.le_of_ble_eq_true rfl) (by constructor <;> omega) hz1.2 (fun _ => rfl) ?_
  refine jl_leq (tgt := 1489) K dL_903 dL_904 (by decide) ?_
  exact k SX1 SM1 adX hR1
set_option maxRecDepth 100000 in
set_option maxHeartbeats 4000000 in
theorem cs_share {p : Program} {l : Launch} {e : Env} {s : State} {m : MethodId} {below : List Frame} {meth : Method} {c : Code} {b L : Nat} {xs : Nat → Int32} {D : va_G} {g : Gt} {cells slots : Nat} {i : Int32} {SX SM : Hp} {adX adM : Nat → Nat} {Rel : Hp → Hp → Prop} {fu : Nat} (K : KL p s m meth c b L xs D g) (hB : Al_share Rel fu) (h0 : ∀ SX SM, Rel SX SM → (0 < SX.1 ∧ (SX.2.1 0).1 = 5) ∧ (0 < SM.1 ∧ (SM.2.1 0).1 = 6)) (hR : Rel SX SM) (hi : ∀ v : Int32, 0 ≤ v → v ≤ 6 → vp_in (i + v) L) (hc : cells + 0 ≤ 600000 ∧ slots + 0 ≤ 7302250)
    (k : ∀ (SX1 SM1 : Hp) (adX1 : Nat → Nat), Rel SX1 SM1 → JL p l e s m below meth c b D g (cells + 0) (slots + 0) 1489 i [] SX1 SM1 adX1 adM) : JL p l e s m below meth c b D g cells slots 909 i [] SX SM adX adM := by
  obtain ⟨r, SX1, SM1, hX, hM, hR1⟩ := hB SX SM hR (xs (i + (1 : Int32)).toNatClampNeg) (xs (i + (2 : Int32)).toNatClampNeg)
  have hz1 := h0 _ _ hR1
  refine jl_a1 K dL_909 ?_
  refine jl_a0 K dL_910 ?_
  refine jl_i3 K dL_911 ?_
  refine jl_iconst (v := (1 : Int32)) K dL_912 (by decide) ?_
  refine jl_iadd K dL_913 ?_
  refine jl_ld K dL_914 (hi 1 (by decide) (by decide)) ?_
  refine jl_a0 K dL_915 ?_
  refine jl_i3 K dL_916 ?_
  refine jl_iconst (v := (2 : Int32)) K dL_917 (by decide) ?_
  refine jl_iadd K dL_918 ?_
  refine jl_ld K dL_919 (hi 2 (by decide) (by decide)) ?_
  refine jl_cXL (st := []) (vs := [vI (xs (i + (1 : Int32)).toNatClampNeg), vI (xs (i + (2 : Int32)).toNatClampNeg)]) (as := [.int (xs (i + (1 : Int32)).toNatClampNeg), .int (xs (i + (2 : Int32)).toNatClampNeg)]) (n := 2) K (c_X7_share hX) rfl dL_920 z666 z667 z668 z1 z669 zd_X7_share rfl rfl rfl ⟨by decide, by decide⟩ (Nat.le_of_ble_eq_true rfl) (by constructor <;> omega) hz1.1 (fun _ => rfl) ?_
  refine jl_a2 K dL_923 ?_
  refine jl_a0 K dL_924 ?_
  refine jl_i3 K dL_925 ?_
  refine jl_iconst (v := (1 : Int32)) K dL_926 (by decide) ?_
  refine jl_iadd K dL_927 ?_
  refine jl_ld K dL_928 (hi 1 (by decide) (by decide)) ?_
  refine jl_a0 K dL_929 ?_
  refine jl_i3 K dL_930 ?_
  refine jl_iconst (v := (2 : Int32)) K dL_931 (by decide) ?_
  refine jl_iadd K dL_932 ?_
  refine jl_ld K dL_933 (hi 2 (by decide) (by decide)) ?_
  refine jl_cML (st := [.long r]) (vs := [vI (xs (i + (1 : Int32)).toNatClampNeg), vI (xs (i + (2 : Int32)).toNatClampNeg)]) (as := [.int (xs (i + (1 : Int32)).toNatClampNeg), .int (xs (i + (2 : Int32)).toNatClampNeg)]) (n := 2) K (c_X8_share hM) rfl dL_934 z1160 z1161 z1162 z13 z1163 zd_X8_share rfl rfl rfl ⟨by decide, by decide⟩ (Nat.le_of_ble_eq_true rfl) (by constructor <;> omega) hz1.2 (fun _ => rfl) ?_
  refine jl_leq (tgt := 1489) K dL_937 dL_938 (by decide) ?_
  exact k SX1 SM1 adX hR1
set_option maxRecDepth 100000 in
set_option maxHeartbeats 4000000 in
theorem cs_judge {p : Program} {l : Launch} {e : Env} {s : State} {m : MethodId} {below : List Frame} {meth : Method} {c : Code} {b L : Nat} {xs : Nat → Int32} {D : va_G} {g : Gt} {cells slots : Nat} {i : Int32} {SX SM : Hp} {adX adM : Nat → Nat} {Rel : Hp → Hp → Prop} {fu : Nat} (K : KL p s m meth c b L xs D g) (hB : Al_judge Rel fu) (h0 : ∀ SX SM, Rel SX SM → (0 < SX.1 ∧ (SX.2.1 0).1 = 5) ∧ (0 < SM.1 ∧ (SM.2.1 0).1 = 6)) (hR : Rel SX SM) (hi : ∀ v : Int32, 0 ≤ v → v ≤ 6 → vp_in (i + v) L) (hc : cells + 0 ≤ 600000 ∧ slots + 0 ≤ 7302250)
    (k : ∀ (SX1 SM1 : Hp) (adX1 : Nat → Nat), Rel SX1 SM1 → JL p l e s m below meth c b D g (cells + 0) (slots + 0) 1489 i [] SX1 SM1 adX1 adM) : JL p l e s m below meth c b D g cells slots 943 i [] SX SM adX adM := by
  obtain ⟨r, SX1, SM1, hX, hM, hR1⟩ := hB SX SM hR (xs (i + (1 : Int32)).toNatClampNeg)
  have hz1 := h0 _ _ hR1
  refine jl_a1 K dL_943 ?_
  refine jl_a0 K dL_944 ?_
  refine jl_i3 K dL_945 ?_
  refine jl_iconst (v := (1 : Int32)) K dL_946 (by decide) ?_
  refine jl_iadd K dL_947 ?_
  refine jl_ld K dL_948 (hi 1 (by decide) (by decide)) ?_
  refine jl_cXI (st := []) (vs := [vI (xs (i + (1 : Int32)).toNatClampNeg)]) (as := [.int (xs (i + (1 : Int32)).toNatClampNeg)]) (n := 1) K (c_X7_judge hX) rfl dL_949 z670 z671 z672 z1 z673 zd_X7_judge rfl rfl rfl ⟨by decide, by decide⟩ (Nat.le_of_ble_eq_true rfl) (by constructor <;> omega) hz1.1 (fun _ => rfl) ?_
  refine jl_a2 K dL_952 ?_
  refine jl_a0 K dL_953 ?_
  refine jl_i3 K dL_954 ?_
  refine jl_iconst (v := (1 : Int32)) K dL_955 (by decide) ?_
  refine jl_iadd K dL_956 ?_
  refine jl_ld K dL_957 (hi 1 (by decide) (by decide)) ?_
  refine jl_cMI (st := [.int r]) (vs := [vI (xs (i + (1 : Int32)).toNatClampNeg)]) (as := [.int (xs (i + (1 : Int32)).toNatClampNeg)]) (n := 1) K (c_X8_judge hM) rfl dL_958 z1164 z1165 z1166 z13 z1167 zd_X8_judge rfl rfl rfl ⟨by decide, by decide⟩ (Nat.le_of_ble_eq_true rfl) (by constructor <;> omega) hz1.2 (fun _ => rfl) ?_
  refine jl_eq (tgt := 1489) K dL_961 (by decide) ?_
  exact k SX1 SM1 adX hR1
set_option maxRecDepth 100000 in
set_option maxHeartbeats 4000000 in
theorem cs_kinds {p : Program} {l : Launch} {e : Env} {s : State} {m : MethodId} {below : List Frame} {meth : Method} {c : Code} {b L : Nat} {xs : Nat → Int32} {D : va_G} {g : Gt} {cells slots : Nat} {i : Int32} {SX SM : Hp} {adX adM : Nat → Nat} {Rel : Hp → Hp → Prop} {fu : Nat} (K : KL p s m meth c b L xs D g) (hB : Al_kinds Rel fu) (h0 : ∀ SX SM, Rel SX SM → (0 < SX.1 ∧ (SX.2.1 0).1 = 5) ∧ (0 < SM.1 ∧ (SM.2.1 0).1 = 6)) (hR : Rel SX SM) (hi : ∀ v : Int32, 0 ≤ v → v ≤ 6 → vp_in (i + v) L) (hc : cells + 0 ≤ 600000 ∧ slots + 0 ≤ 7302250)
    (k : ∀ (SX1 SM1 : Hp) (adX1 : Nat → Nat), Rel SX1 SM1 → JL p l e s m below meth c b D g (cells + 0) (slots + 0) 1489 i [] SX1 SM1 adX1 adM) : JL p l e s m below meth c b D g cells slots 966 i [] SX SM adX adM := by
  obtain ⟨r, SX1, SM1, hX, hM, hR1⟩ := hB SX SM hR (xs (i + (1 : Int32)).toNatClampNeg) (xs (i + (2 : Int32)).toNatClampNeg) (xs (i + (3 : Int32)).toNatClampNeg)
  have hz1 := h0 _ _ hR1
  refine jl_a1 K dL_966 ?_
  refine jl_a0 K dL_967 ?_
  refine jl_i3 K dL_968 ?_
  refine jl_iconst (v := (1 : Int32)) K dL_969 (by decide) ?_
  refine jl_iadd K dL_970 ?_
  refine jl_ld K dL_971 (hi 1 (by decide) (by decide)) ?_
  refine jl_a0 K dL_972 ?_
  refine jl_i3 K dL_973 ?_
  refine jl_iconst (v := (2 : Int32)) K dL_974 (by decide) ?_
  refine jl_iadd K dL_975 ?_
  refine jl_ld K dL_976 (hi 2 (by decide) (by decide)) ?_
  refine jl_a0 K dL_977 ?_
  refine jl_i3 K dL_978 ?_
  refine jl_iconst (v := (3 : Int32)) K dL_979 (by decide) ?_
  refine jl_iadd K dL_980 ?_
  refine jl_ld K dL_981 (hi 3 (by decide) (by decide)) ?_
  refine jl_cXI (st := []) (vs := [vI (xs (i + (1 : Int32)).toNatClampNeg), vI (xs (i + (2 : Int32)).toNatClampNeg), vI (xs (i + (3 : Int32)).toNatClampNeg)]) (as := [.int (xs (i + (1 : Int32)).toNatClampNeg), .int (xs (i + (2 : Int32)).toNatClampNeg), .int (xs (i + (3 : Int32)).toNatClampNeg)]) (n := 3) K (c_X7_kinds hX) rfl dL_982 z703 z704 z705 z1 z706 zd_X7_kinds rfl rfl rfl ⟨by decide, by decide⟩ (Nat.le_of_ble_eq_true rfl) (by constructor <;> omega) hz1.1 (fun _ => rfl) ?_
  refine jl_a2 K dL_985 ?_
  refine jl_a0 K dL_986 ?_
  refine jl_i3 K dL_987 ?_
  refine jl_iconst (v := (1 : Int32)) K dL_988 (by decide) ?_
  refine jl_iadd K dL_989 ?_
  refine jl_ld K dL_990 (hi 1 (by decide) (by decide)) ?_
  refine jl_a0 K dL_991 ?_
  refine jl_i3 K dL_992 ?_
  refine jl_iconst (v := (2 : Int32)) K dL_993 (by decide) ?_
  refine jl_iadd K dL_994 ?_
  refine jl_ld K dL_995 (hi 2 (by decide) (by decide)) ?_
  refine jl_a0 K dL_996 ?_
  refine jl_i3 K dL_997 ?_
  refine jl_iconst (v := (3 : Int32)) K dL_998 (by decide) ?_
  refine jl_iadd K dL_999 ?_
  refine jl_ld K dL_1000 (hi 3 (by decide) (by decide)) ?_
  refine jl_cMI (st := [.int r]) (vs := [vI (xs (i + (1 : Int32)).toNatClampNeg), vI (xs (i + (2 : Int32)).toNatClampNeg), vI (xs (i + (3 : Int32)).toNatClampNeg)]) (as := [.int (xs (i + (1 : Int32)).toNatClampNeg), .int (xs (i + (2 : Int32)).toNatClampNeg), .int (xs (i + (3 : Int32)).toNatClampNeg)]) (n := 3) K (c_X8_kinds hM) rfl dL_1001 z1176 z1177 z1178 z13 z1179 zd_X8_kinds rfl rfl rfl ⟨by decide, by decide⟩ (Nat.le_of_ble_eq_true rfl) (by constructor <;> omega) hz1.2 (fun _ => rfl) ?_
  refine jl_eq (tgt := 1489) K dL_1004 (by decide) ?_
  exact k SX1 SM1 adX hR1
set_option maxRecDepth 100000 in
set_option maxHeartbeats 4000000 in
theorem cs_prides {p : Program} {l : Launch} {e : Env} {s : State} {m : MethodId} {below : List Frame} {meth : Method} {c : Code} {b L : Nat} {xs : Nat → Int32} {D : va_G} {g : Gt} {cells slots : Nat} {i : Int32} {SX SM : Hp} {adX adM : Nat → Nat} {Rel : Hp → Hp → Prop} {fu : Nat} (K : KL p s m meth c b L xs D g) (hB : Al_prides Rel fu) (h0 : ∀ SX SM, Rel SX SM → (0 < SX.1 ∧ (SX.2.1 0).1 = 5) ∧ (0 < SM.1 ∧ (SM.2.1 0).1 = 6)) (hR : Rel SX SM) (hi : ∀ v : Int32, 0 ≤ v → v ≤ 6 → vp_in (i + v) L) (hc : cells + 0 ≤ 600000 ∧ slots + 0 ≤ 7302250)
    (k : ∀ (SX1 SM1 : Hp) (adX1 : Nat → Nat), Rel SX1 SM1 → JL p l e s m below meth c b D g (cells + 0) (slots + 0) 1489 i [] SX1 SM1 adX1 adM) : JL p l e s m below meth c b D g cells slots 1009 i [] SX SM adX adM := by
  obtain ⟨r, SX1, SM1, hX, hM, hR1⟩ := hB SX SM hR (xs (i + (1 : Int32)).toNatClampNeg) (xs (i + (2 : Int32)).toNatClampNeg) (xs (i + (3 : Int32)).toNatClampNeg)
  have hz1 := h0 _ _ hR1
  refine jl_a1 K dL_1009 ?_
  refine jl_a0 K dL_1010 ?_
  refine jl_i3 K dL_1011 ?_
  refine jl_iconst (v := (1 : Int32)) K dL_1012 (by decide) ?_
  refine jl_iadd K dL_1013 ?_
  refine jl_ld K dL_1014 (hi 1 (by decide) (by decide)) ?_
  refine jl_a0 K dL_1015 ?_
  refine jl_i3 K dL_1016 ?_
  refine jl_iconst (v := (2 : Int32)) K dL_1017 (by decide) ?_
  refine jl_iadd K dL_1018 ?_
  refine jl_ld K dL_1019 (hi 2 (by decide) (by decide)) ?_
  refine jl_a0 K dL_1020 ?_
  refine jl_i3 K dL_1021 ?_
  refine jl_iconst (v := (3 : Int32)) K dL_1022 (by decide) ?_
  refine jl_iadd K dL_1023 ?_
  refine jl_ld K dL_1024 (hi 3 (by decide) (by decide)) ?_
  refine jl_cXI (st := []) (vs := [vI (xs (i + (1 : Int32)).toNatClampNeg), vI (xs (i + (2 : Int32)).toNatClampNeg), vI (xs (i + (3 : Int32)).toNatClampNeg)]) (as := [.int (xs (i + (1 : Int32)).toNatClampNeg), .int (xs (i + (2 : Int32)).toNatClampNeg), .int (xs (i + (3 : Int32)).toNatClampNeg)]) (n := 3) K (c_X7_prides hX) rfl dL_1025 z712 z713 z714 z1 z715 zd_X7_prides rfl rfl rfl ⟨by decide, by decide⟩ (Nat.le_of_ble_eq_true rfl) (by constructor <;> omega) hz1.1 (fun _ => rfl) ?_
  refine jl_a2 K dL_1028 ?_
  refine jl_a0 K dL_1029 ?_
  refine jl_i3 K dL_1030 ?_
  refine jl_iconst (v := (1 : Int32)) K dL_1031 (by decide) ?_
  refine jl_iadd K dL_1032 ?_
  refine jl_ld K dL_1033 (hi 1 (by decide) (by decide)) ?_
  refine jl_a0 K dL_1034 ?_
  refine jl_i3 K dL_1035 ?_
  refine jl_iconst (v := (2 : Int32)) K dL_1036 (by decide) ?_
  refine jl_iadd K dL_1037 ?_
  refine jl_ld K dL_1038 (hi 2 (by decide) (by decide)) ?_
  refine jl_a0 K dL_1039 ?_
  refine jl_i3 K dL_1040 ?_
  refine jl_iconst (v := (3 : Int32)) K dL_1041 (by decide) ?_
  refine jl_iadd K dL_1042 ?_
  refine jl_ld K dL_1043 (hi 3 (by decide) (by decide)) ?_
  refine jl_cMI (st := [.int r]) (vs := [vI (xs (i + (1 : Int32)).toNatClampNeg), vI (xs (i + (2 : Int32)).toNatClampNeg), vI (xs (i + (3 : Int32)).toNatClampNeg)]) (as := [.int (xs (i + (1 : Int32)).toNatClampNeg), .int (xs (i + (2 : Int32)).toNatClampNeg), .int (xs (i + (3 : Int32)).toNatClampNeg)]) (n := 3) K (c_X8_prides hM) rfl dL_1044 z1180 z1181 z1182 z13 z1183 zd_X8_prides rfl rfl rfl ⟨by decide, by decide⟩ (Nat.le_of_ble_eq_true rfl) (by constructor <;> omega) hz1.2 (fun _ => rfl) ?_
  refine jl_eq (tgt := 1489) K dL_1047 (by decide) ?_
  exact k SX1 SM1 adX hR1
set_option maxRecDepth 100000 in
set_option maxHeartbeats 4000000 in
theorem cs_whose {p : Program} {l : Launch} {e : Env} {s : State} {m : MethodId} {below : List Frame} {meth : Method} {c : Code} {b L : Nat} {xs : Nat → Int32} {D : va_G} {g : Gt} {cells slots : Nat} {i : Int32} {SX SM : Hp} {adX adM : Nat → Nat} {Rel : Hp → Hp → Prop} {fu : Nat} (K : KL p s m meth c b L xs D g) (hB : Al_whose Rel fu) (h0 : ∀ SX SM, Rel SX SM → (0 < SX.1 ∧ (SX.2.1 0).1 = 5) ∧ (0 < SM.1 ∧ (SM.2.1 0).1 = 6)) (hR : Rel SX SM) (hi : ∀ v : Int32, 0 ≤ v → v ≤ 6 → vp_in (i + v) L) (hc : cells + 0 ≤ 600000 ∧ slots + 0 ≤ 7302250)
    (k : ∀ (SX1 SM1 : Hp) (adX1 : Nat → Nat), Rel SX1 SM1 → JL p l e s m below meth c b D g (cells + 0) (slots + 0) 1489 i [] SX1 SM1 adX1 adM) : JL p l e s m below meth c b D g cells slots 1052 i [] SX SM adX adM := by
  obtain ⟨r, SX1, SM1, hX, hM, hR1⟩ := hB SX SM hR (xs (i + (1 : Int32)).toNatClampNeg) (xs (i + (2 : Int32)).toNatClampNeg) (xs (i + (3 : Int32)).toNatClampNeg)
  have hz1 := h0 _ _ hR1
  refine jl_a1 K dL_1052 ?_
  refine jl_a0 K dL_1053 ?_
  refine jl_i3 K dL_1054 ?_
  refine jl_iconst (v := (1 : Int32)) K dL_1055 (by decide) ?_
  refine jl_iadd K dL_1056 ?_
  refine jl_ld K dL_1057 (hi 1 (by decide) (by decide)) ?_
  refine jl_a0 K dL_1058 ?_
  refine jl_i3 K dL_1059 ?_
  refine jl_iconst (v := (2 : Int32)) K dL_1060 (by decide) ?_
  refine jl_iadd K dL_1061 ?_
  refine jl_ld K dL_1062 (hi 2 (by decide) (by decide)) ?_
  refine jl_a0 K dL_1063 ?_
  refine jl_i3 K dL_1064 ?_
  refine jl_iconst (v := (3 : Int32)) K dL_1065 (by decide) ?_
  refine jl_iadd K dL_1066 ?_
  refine jl_ld K dL_1067 (hi 3 (by decide) (by decide)) ?_
  refine jl_cXI (st := []) (vs := [vI (xs (i + (1 : Int32)).toNatClampNeg), vI (xs (i + (2 : Int32)).toNatClampNeg), vI (xs (i + (3 : Int32)).toNatClampNeg)]) (as := [.int (xs (i + (1 : Int32)).toNatClampNeg), .int (xs (i + (2 : Int32)).toNatClampNeg), .int (xs (i + (3 : Int32)).toNatClampNeg)]) (n := 3) K (c_X7_whose hX) rfl dL_1068 z716 z717 z718 z1 z719 zd_X7_whose rfl rfl rfl ⟨by decide, by decide⟩ (Nat.le_of_ble_eq_true rfl) (by constructor <;> omega) hz1.1 (fun _ => rfl) ?_
  refine jl_a2 K dL_1071 ?_
  refine jl_a0 K dL_1072 ?_
  refine jl_i3 K dL_1073 ?_
  refine jl_iconst (v := (1 : Int32)) K dL_1074 (by decide) ?_
  refine jl_iadd K dL_1075 ?_
  refine jl_ld K dL_1076 (hi 1 (by decide) (by decide)) ?_
  refine jl_a0 K dL_1077 ?_
  refine jl_i3 K dL_1078 ?_
  refine jl_iconst (v := (2 : Int32)) K dL_1079 (by decide) ?_
  refine jl_iadd K dL_1080 ?_
  refine jl_ld K dL_1081 (hi 2 (by decide) (by decide)) ?_
  refine jl_a0 K dL_1082 ?_
  refine jl_i3 K dL_1083 ?_
  refine jl_iconst (v := (3 : Int32)) K dL_1084 (by decide) ?_
  refine jl_iadd K dL_1085 ?_
  refine jl_ld K dL_1086 (hi 3 (by decide) (by decide)) ?_
  refine jl_cMI (st := [.int r]) (vs := [vI (xs (i + (1 : Int32)).toNatClampNeg), vI (xs (i + (2 : Int32)).toNatClampNeg), vI (xs (i + (3 : Int32)).toNatClampNeg)]) (as := [.int (xs (i + (1 : Int32)).toNatClampNeg), .int (xs (i + (2 : Int32)).toNatClampNeg), .int (xs (i + (3 : Int32)).toNatClampNeg)]) (n := 3) K (c_X8_whose hM) rfl dL_1087 z1184 z1185 z1186 z13 z1187 zd_X8_whose rfl rfl rfl ⟨by decide, by decide⟩ (Nat.le_of_ble_eq_true rfl) (by constructor <;> omega) hz1.2 (fun _ => rfl) ?_
  refine jl_eq (tgt := 1489) K dL_1090 (by decide) ?_
  exact k SX1 SM1 adX hR1
set_option maxRecDepth 100000 in
set_option maxHeartbeats 4000000 in
theorem cs_laws {p : Program} {l : Launch} {e : Env} {s : State} {m : MethodId} {below : List Frame} {meth : Method} {c : Code} {b L : Nat} {xs : Nat → Int32} {D : va_G} {g : Gt} {cells slots : Nat} {i : Int32} {SX SM : Hp} {adX adM : Nat → Nat} {Rel : Hp → Hp → Prop} {fu : Nat} (K : KL p s m meth c b L xs D g) (hB : Al_laws Rel fu) (h0 : ∀ SX SM, Rel SX SM → (0 < SX.1 ∧ (SX.2.1 0).1 = 5) ∧ (0 < SM.1 ∧ (SM.2.1 0).1 = 6)) (hR : Rel SX SM) (hi : ∀ v : Int32, 0 ≤ v → v ≤ 6 → vp_in (i + v) L) (hc : cells + 0 ≤ 600000 ∧ slots + 0 ≤ 7302250)
    (k : ∀ (SX1 SM1 : Hp) (adX1 : Nat → Nat), Rel SX1 SM1 → JL p l e s m below meth c b D g (cells + 0) (slots + 0) 1489 i [] SX1 SM1 adX1 adM) : JL p l e s m below meth c b D g cells slots 1095 i [] SX SM adX adM := by
  obtain ⟨r, SX1, SM1, hX, hM, hR1⟩ := hB SX SM hR (xs (i + (1 : Int32)).toNatClampNeg)
  have hz1 := h0 _ _ hR1
  refine jl_a1 K dL_1095 ?_
  refine jl_a0 K dL_1096 ?_
  refine jl_i3 K dL_1097 ?_
  refine jl_iconst (v := (1 : Int32)) K dL_1098 (by decide) ?_
  refine jl_iadd K dL_1099 ?_
  refine jl_ld K dL_1100 (hi 1 (by decide) (by decide)) ?_
  refine jl_cXI (st := []) (vs := [vI (xs (i + (1 : Int32)).toNatClampNeg)]) (as := [.int (xs (i + (1 : Int32)).toNatClampNeg)]) (n := 1) K (c_X7_laws hX) rfl dL_1101 z720 z721 z722 z1 z723 zd_X7_laws rfl rfl rfl ⟨by decide, by decide⟩ (Nat.le_of_ble_eq_true rfl) (by constructor <;> omega) hz1.1 (fun _ => rfl) ?_
  refine jl_a2 K dL_1104 ?_
  refine jl_a0 K dL_1105 ?_
  refine jl_i3 K dL_1106 ?_
  refine jl_iconst (v := (1 : Int32)) K dL_1107 (by decide) ?_
  refine jl_iadd K dL_1108 ?_
  refine jl_ld K dL_1109 (hi 1 (by decide) (by decide)) ?_
  refine jl_cMI (st := [.int r]) (vs := [vI (xs (i + (1 : Int32)).toNatClampNeg)]) (as := [.int (xs (i + (1 : Int32)).toNatClampNeg)]) (n := 1) K (c_X8_laws hM) rfl dL_1110 z1188 z1189 z1190 z13 z1191 zd_X8_laws rfl rfl rfl ⟨by decide, by decide⟩ (Nat.le_of_ble_eq_true rfl) (by constructor <;> omega) hz1.2 (fun _ => rfl) ?_
  refine jl_eq (tgt := 1489) K dL_1113 (by decide) ?_
  exact k SX1 SM1 adX hR1
set_option maxRecDepth 100000 in
set_option maxHeartbeats 4000000 in
theorem cs_film {p : Program} {l : Launch} {e : Env} {s : State} {m : MethodId} {below : List Frame} {meth : Method} {c : Code} {b L : Nat} {xs : Nat → Int32} {D : va_G} {g : Gt} {cells slots : Nat} {i : Int32} {SX SM : Hp} {adX adM : Nat → Nat} {Rel : Hp → Hp → Prop} {fu : Nat} (K : KL p s m meth c b L xs D g) (hB : Al_film Rel fu) (h0 : ∀ SX SM, Rel SX SM → (0 < SX.1 ∧ (SX.2.1 0).1 = 5) ∧ (0 < SM.1 ∧ (SM.2.1 0).1 = 6)) (hR : Rel SX SM) (hi : ∀ v : Int32, 0 ≤ v → v ≤ 6 → vp_in (i + v) L) (hc : cells + 0 ≤ 600000 ∧ slots + 0 ≤ 7302250)
    (k : ∀ (SX1 SM1 : Hp) (adX1 : Nat → Nat), Rel SX1 SM1 → JL p l e s m below meth c b D g (cells + 0) (slots + 0) 1489 i [] SX1 SM1 adX1 adM) : JL p l e s m below meth c b D g cells slots 1118 i [] SX SM adX adM := by
  obtain ⟨r, SX1, SM1, hX, hM, hR1⟩ := hB SX SM hR (xs (i + (1 : Int32)).toNatClampNeg)
  have hz1 := h0 _ _ hR1
  refine jl_a1 K dL_1118 ?_
  refine jl_a0 K dL_1119 ?_
  refine jl_i3 K dL_1120 ?_
  refine jl_iconst (v := (1 : Int32)) K dL_1121 (by decide) ?_
  refine jl_iadd K dL_1122 ?_
  refine jl_ld K dL_1123 (hi 1 (by decide) (by decide)) ?_
  refine jl_cXI (st := []) (vs := [vI (xs (i + (1 : Int32)).toNatClampNeg)]) (as := [.int (xs (i + (1 : Int32)).toNatClampNeg)]) (n := 1) K (c_X7_film hX) rfl dL_1124 z724 z725 z726 z1 z727 zd_X7_film rfl rfl rfl ⟨by decide, by decide⟩ (Nat.le_of_ble_eq_true rfl) (by constructor <;> omega) hz1.1 (fun _ => rfl) ?_
  refine jl_a2 K dL_1127 ?_
  refine jl_a0 K dL_1128 ?_
  refine jl_i3 K dL_1129 ?_
  refine jl_iconst (v := (1 : Int32)) K dL_1130 (by decide) ?_
  refine jl_iadd K dL_1131 ?_
  refine jl_ld K dL_1132 (hi 1 (by decide) (by decide)) ?_
  refine jl_cMI (st := [.int r]) (vs := [vI (xs (i + (1 : Int32)).toNatClampNeg)]) (as := [.int (xs (i + (1 : Int32)).toNatClampNeg)]) (n := 1) K (c_X8_film hM) rfl dL_1133 z1192 z1193 z1194 z13 z1195 zd_X8_film rfl rfl rfl ⟨by decide, by decide⟩ (Nat.le_of_ble_eq_true rfl) (by constructor <;> omega) hz1.2 (fun _ => rfl) ?_
  refine jl_eq (tgt := 1489) K dL_1136 (by decide) ?_
  exact k SX1 SM1 adX hR1
set_option maxRecDepth 100000 in
set_option maxHeartbeats 4000000 in
theorem cs_drawn {p : Program} {l : Launch} {e : Env} {s : State} {m : MethodId} {below : List Frame} {meth : Method} {c : Code} {b L : Nat} {xs : Nat → Int32} {D : va_G} {g : Gt} {cells slots : Nat} {i : Int32} {SX SM : Hp} {adX adM : Nat → Nat} {Rel : Hp → Hp → Prop} {fu : Nat} (K : KL p s m meth c b L xs D g) (hB : Al_drawn Rel fu) (h0 : ∀ SX SM, Rel SX SM → (0 < SX.1 ∧ (SX.2.1 0).1 = 5) ∧ (0 < SM.1 ∧ (SM.2.1 0).1 = 6)) (hR : Rel SX SM) (hi : ∀ v : Int32, 0 ≤ v → v ≤ 6 → vp_in (i + v) L) (hc : cells + 0 ≤ 600000 ∧ slots + 0 ≤ 7302250)
    (k : ∀ (SX1 SM1 : Hp) (adX1 : Nat → Nat), Rel SX1 SM1 → JL p l e s m below meth c b D g (cells + 0) (slots + 0) 1489 i [] SX1 SM1 adX1 adM) : JL p l e s m below meth c b D g cells slots 1141 i [] SX SM adX adM := by
  obtain ⟨r, SX1, SM1, hX, hM, hR1⟩ := hB SX SM hR (xs (i + (1 : Int32)).toNatClampNeg) (xs (i + (2 : Int32)).toNatClampNeg)
  have hz1 := h0 _ _ hR1
  refine jl_a1 K dL_1141 ?_
  refine jl_a0 K dL_1142 ?_
  refine jl_i3 K dL_1143 ?_
  refine jl_iconst (v := (1 : Int32)) K dL_1144 (by decide) ?_
  refine jl_iadd K dL_1145 ?_
  refine jl_ld K dL_1146 (hi 1 (by decide) (by decide)) ?_
  refine jl_a0 K dL_1147 ?_
  refine jl_i3 K dL_1148 ?_
  refine jl_iconst (v := (2 : Int32)) K dL_1149 (by decide) ?_
  refine jl_iadd K dL_1150 ?_
  refine jl_ld K dL_1151 (hi 2 (by decide) (by decide)) ?_
  refine jl_cXI (st := []) (vs := [vI (xs (i + (1 : Int32)).toNatClampNeg), vI (xs (i + (2 : Int32)).toNatClampNeg)]) (as := [.int (xs (i + (1 : Int32)).toNatClampNeg), .int (xs (i + (2 : Int32)).toNatClampNeg)]) (n := 2) K (c_X7_drawn hX) rfl dL_1152 z737 z738 z739 z1 z740 zd_X7_drawn rfl rfl rfl ⟨by decide, by decide⟩ (Nat.le_of_ble_eq_true rfl) (by constructor <;> omega) hz1.1 (fun _ => rfl) ?_
  refine jl_a2 K dL_1155 ?_
  refine jl_a0 K dL_1156 ?_
  refine jl_i3 K dL_1157 ?_
  refine jl_iconst (v := (1 : Int32)) K dL_1158 (by decide) ?_
  refine jl_iadd K dL_1159 ?_
  refine jl_ld K dL_1160 (hi 1 (by decide) (by decide)) ?_
  refine jl_a0 K dL_1161 ?_
  refine jl_i3 K dL_1162 ?_
  refine jl_iconst (v := (2 : Int32)) K dL_1163 (by decide) ?_
  refine jl_iadd K dL_1164 ?_
  refine jl_ld K dL_1165 (hi 2 (by decide) (by decide)) ?_
  refine jl_cMI (st := [.int r]) (vs := [vI (xs (i + (1 : Int32)).toNatClampNeg), vI (xs (i + (2 : Int32)).toNatClampNeg)]) (as := [.int (xs (i + (1 : Int32)).toNatClampNeg), .int (xs (i + (2 : Int32)).toNatClampNeg)]) (n := 2) K (c_X8_drawn hM) rfl dL_1166 z1196 z1197 z1198 z13 z1199 zd_X8_drawn rfl rfl rfl ⟨by decide, by decide⟩ (Nat.le_of_ble_eq_true rfl) (by constructor <;> omega) hz1.2 (fun _ => rfl) ?_
  refine jl_eq (tgt := 1489) K dL_1169 (by decide) ?_
  exact k SX1 SM1 adX hR1
set_option maxRecDepth 100000 in
set_option maxHeartbeats 4000000 in
theorem cs_odds {p : Program} {l : Launch} {e : Env} {s : State} {m : MethodId} {below : List Frame} {meth : Method} {c : Code} {b L : Nat} {xs : Nat → Int32} {D : va_G} {g : Gt} {cells slots : Nat} {i : Int32} {SX SM : Hp} {adX adM : Nat → Nat} {Rel : Hp → Hp → Prop} {fu : Nat} (K : KL p s m meth c b L xs D g) (hB : Al_odds Rel fu) (h0 : ∀ SX SM, Rel SX SM → (0 < SX.1 ∧ (SX.2.1 0).1 = 5) ∧ (0 < SM.1 ∧ (SM.2.1 0).1 = 6)) (hR : Rel SX SM) (hi : ∀ v : Int32, 0 ≤ v → v ≤ 6 → vp_in (i + v) L) (hc : cells + 0 ≤ 600000 ∧ slots + 0 ≤ 7302250)
    (k : ∀ (SX1 SM1 : Hp) (adX1 : Nat → Nat), Rel SX1 SM1 → JL p l e s m below meth c b D g (cells + 0) (slots + 0) 1489 i [] SX1 SM1 adX1 adM) : JL p l e s m below meth c b D g cells slots 1174 i [] SX SM adX adM := by
  obtain ⟨r, SX1, SM1, hX, hM, hR1⟩ := hB SX SM hR (xs (i + (1 : Int32)).toNatClampNeg) (xs (i + (2 : Int32)).toNatClampNeg) (xs (i + (3 : Int32)).toNatClampNeg) (xs (i + (4 : Int32)).toNatClampNeg)
  have hz1 := h0 _ _ hR1
  refine jl_a1 K dL_1174 ?_
  refine jl_a0 K dL_1175 ?_
  refine jl_i3 K dL_1176 ?_
  refine jl_iconst (v := (1 : Int32)) K dL_1177 (by decide) ?_
  refine jl_iadd K dL_1178 ?_
  refine jl_ld K dL_1179 (hi 1 (by decide) (by decide)) ?_
  refine jl_a0 K dL_1180 ?_
  refine jl_i3 K dL_1181 ?_
  refine jl_iconst (v := (2 : Int32)) K dL_1182 (by decide) ?_
  refine jl_iadd K dL_1183 ?_
  refine jl_ld K dL_1184 (hi 2 (by decide) (by decide)) ?_
  refine jl_a0 K dL_1185 ?_
  refine jl_i3 K dL_1186 ?_
  refine jl_iconst (v := (3 : Int32)) K dL_1187 (by decide) ?_
  refine jl_iadd K dL_1188 ?_
  refine jl_ld K dL_1189 (hi 3 (by decide) (by decide)) ?_
  refine jl_a0 K dL_1190 ?_
  refine jl_i3 K dL_1191 ?_
  refine jl_iconst (v := (4 : Int32)) K dL_1192 (by decide) ?_
  refine jl_iadd K dL_1193 ?_
  refine jl_ld K dL_1194 (hi 4 (by decide) (by decide)) ?_
  refine jl_cXL (st := []) (vs := [vI (xs (i + (1 : Int32)).toNatClampNeg), vI (xs (i + (2 : Int32)).toNatClampNeg), vI (xs (i + (3 : Int32)).toNatClampNeg), vI (xs (i + (4 : Int32)).toNatClampNeg)]) (as := [.int (xs (i + (1 : Int32)).toNatClampNeg), .int (xs (i + (2 : Int32)).toNatClampNeg), .int (xs (i + (3 : Int32)).toNatClampNeg), .int (xs (i + (4 : Int32)).toNatClampNeg)]) (n := 4) K (c_X7_odds hX) rfl dL_1195 z754 z755 z756 z1 z757 zd_X7_odds rfl rfl rfl ⟨by decide, by decide⟩ (Nat.le_of_ble_eq_true rfl) (by constructor <;> omega) hz1.1 (fun _ => rfl) ?_
  refine jl_a2 K dL_1198 ?_
  refine jl_a0 K dL_1199 ?_
  refine jl_i3 K dL_1200 ?_
  refine jl_iconst (v := (1 : Int32)) K dL_1201 (by decide) ?_
  refine jl_iadd K dL_1202 ?_
  refine jl_ld K dL_1203 (hi 1 (by decide) (by decide)) ?_
  refine jl_a0 K dL_1204 ?_
  refine jl_i3 K dL_1205 ?_
  refine jl_iconst (v := (2 : Int32)) K dL_1206 (by decide) ?_
  refine jl_iadd K dL_1207 ?_
  refine jl_ld K dL_1208 (hi 2 (by decide) (by decide)) ?_
  refine jl_a0 K dL_1209 ?_
  refine jl_i3 K dL_1210 ?_
  refine jl_iconst (v := (3 : Int32)) K dL_1211 (by decide) ?_
  refine jl_iadd K dL_1212 ?_
  refine jl_ld K dL_1213 (hi 3 (by decide) (by decide)) ?_
  refine jl_a0 K dL_1214 ?_
  refine jl_i3 K dL_1215 ?_
  refine jl_iconst (v := (4 : Int32)) K dL_1216 (by decide) ?_
  refine jl_iadd K dL_1217 ?_
  refine jl_ld K dL_1218 (hi 4 (by decide) (by decide)) ?_
  refine jl_cML (st := [.long r]) (vs := [vI (xs (i + (1 : Int32)).toNatClampNeg), vI (xs (i + (2 : Int32)).toNatClampNeg), vI (xs (i + (3 : Int32)).toNatClampNeg), vI (xs (i + (4 : Int32)).toNatClampNeg)]) (as := [.int (xs (i + (1 : Int32)).toNatClampNeg), .int (xs (i + (2 : Int32)).toNatClampNeg), .int (xs (i + (3 : Int32)).toNatClampNeg), .int (xs (i + (4 : Int32)).toNatClampNeg)]) (n := 4) K (c_X8_odds hM) rfl dL_1219 z1208 z1209 z1210 z13 z1211 zd_X8_odds rfl rfl rfl ⟨by decide, by decide⟩ (Nat.le_of_ble_eq_true rfl) (by constructor <;> omega) hz1.2 (fun _ => rfl) ?_
  refine jl_leq (tgt := 1489) K dL_1222 dL_1223 (by decide) ?_
  exact k SX1 SM1 adX hR1
set_option maxRecDepth 100000 in
set_option maxHeartbeats 4000000 in
theorem cs_image {p : Program} {l : Launch} {e : Env} {s : State} {m : MethodId} {below : List Frame} {meth : Method} {c : Code} {b L : Nat} {xs : Nat → Int32} {D : va_G} {g : Gt} {cells slots : Nat} {i : Int32} {SX SM : Hp} {adX adM : Nat → Nat} {Rel : Hp → Hp → Prop} {fu : Nat} (K : KL p s m meth c b L xs D g) (hB : Al_image Rel fu) (h0 : ∀ SX SM, Rel SX SM → (0 < SX.1 ∧ (SX.2.1 0).1 = 5) ∧ (0 < SM.1 ∧ (SM.2.1 0).1 = 6)) (hR : Rel SX SM) (hi : ∀ v : Int32, 0 ≤ v → v ≤ 6 → vp_in (i + v) L) (hc : cells + 0 ≤ 600000 ∧ slots + 0 ≤ 7302250)
    (k : ∀ (SX1 SM1 : Hp) (adX1 : Nat → Nat), Rel SX1 SM1 → JL p l e s m below meth c b D g (cells + 0) (slots + 0) 1489 i [] SX1 SM1 adX1 adM) : JL p l e s m below meth c b D g cells slots 1228 i [] SX SM adX adM := by
  obtain ⟨r, SX1, SM1, hX, hM, hR1⟩ := hB SX SM hR
  have hz1 := h0 _ _ hR1
  refine jl_a1 K dL_1228 ?_
  refine jl_cXI (st := []) (vs := []) (as := []) (n := 0) K (c_X7_image hX) rfl dL_1229 z758 z759 z760 z1 z761 zd_X7_image rfl rfl rfl ⟨by decide, by decide⟩ (Nat.le_of_ble_eq_true rfl) (by constructor <;> omega) hz1.1 (fun _ => rfl) ?_
  refine jl_a2 K dL_1232 ?_
  refine jl_cMI (st := [.int r]) (vs := []) (as := []) (n := 0) K (c_X8_image hM) rfl dL_1233 z1212 z1213 z1214 z13 z1215 zd_X8_image rfl rfl rfl ⟨by decide, by decide⟩ (Nat.le_of_ble_eq_true rfl) (by constructor <;> omega) hz1.2 (fun _ => rfl) ?_
  refine jl_eq (tgt := 1489) K dL_1236 (by decide) ?_
  exact k SX1 SM1 adX hR1
set_option maxRecDepth 100000 in
set_option maxHeartbeats 4000000 in
theorem cs_back {p : Program} {l : Launch} {e : Env} {s : State} {m : MethodId} {below : List Frame} {meth : Method} {c : Code} {b L : Nat} {xs : Nat → Int32} {D : va_G} {g : Gt} {cells slots : Nat} {i : Int32} {SX SM : Hp} {adX adM : Nat → Nat} {Rel : Hp → Hp → Prop} {fu : Nat} (K : KL p s m meth c b L xs D g) (hB : Al_back Rel fu) (h0 : ∀ SX SM, Rel SX SM → (0 < SX.1 ∧ (SX.2.1 0).1 = 5) ∧ (0 < SM.1 ∧ (SM.2.1 0).1 = 6)) (hR : Rel SX SM) (hi : ∀ v : Int32, 0 ≤ v → v ≤ 6 → vp_in (i + v) L) (hc : cells + 0 ≤ 600000 ∧ slots + 0 ≤ 7302250)
    (k : ∀ (SX1 SM1 : Hp) (adX1 : Nat → Nat), Rel SX1 SM1 → JL p l e s m below meth c b D g (cells + 0) (slots + 0) 1489 i [] SX1 SM1 adX1 adM) : JL p l e s m below meth c b D g cells slots 1241 i [] SX SM adX adM := by
  obtain ⟨r, SX1, SM1, hX, hM, hR1⟩ := hB SX SM hR
  have hz1 := h0 _ _ hR1
  refine jl_a1 K dL_1241 ?_
  refine jl_cXI (st := []) (vs := []) (as := []) (n := 0) K (c_X7_back hX) rfl dL_1242 z762 z763 z764 z1 z765 zd_X7_back rfl rfl rfl ⟨by decide, by decide⟩ (Nat.le_of_ble_eq_true rfl) (by constructor <;> omega) hz1.1 (fun _ => rfl) ?_
  refine jl_a2 K dL_1245 ?_
  refine jl_cMI (st := [.int r]) (vs := []) (as := []) (n := 0) K (c_X8_back hM) rfl dL_1246 z1216 z1217 z1218 z13 z1219 zd_X8_back rfl rfl rfl ⟨by decide, by decide⟩ (Nat.le_of_ble_eq_true rfl) (by constructor <;> omega) hz1.2 (fun _ => rfl) ?_
  refine jl_eq (tgt := 1489) K dL_1249 (by decide) ?_
  exact k SX1 SM1 adX hR1
set_option maxRecDepth 100000 in
set_option maxHeartbeats 4000000 in
theorem cs_sheet {p : Program} {l : Launch} {e : Env} {s : State} {m : MethodId} {below : List Frame} {meth : Method} {c : Code} {b L : Nat} {xs : Nat → Int32} {D : va_G} {g : Gt} {cells slots : Nat} {i : Int32} {SX SM : Hp} {adX adM : Nat → Nat} {Rel : Hp → Hp → Prop} {fu : Nat} (K : KL p s m meth c b L xs D g) (hB : Al_sheet Rel fu) (h0 : ∀ SX SM, Rel SX SM → (0 < SX.1 ∧ (SX.2.1 0).1 = 5) ∧ (0 < SM.1 ∧ (SM.2.1 0).1 = 6)) (hR : Rel SX SM) (hi : ∀ v : Int32, 0 ≤ v → v ≤ 6 → vp_in (i + v) L) (hc : cells + 0 ≤ 600000 ∧ slots + 0 ≤ 7302250)
    (k : ∀ (SX1 SM1 : Hp) (adX1 : Nat → Nat), Rel SX1 SM1 → JL p l e s m below meth c b D g (cells + 0) (slots + 0) 1489 i [] SX1 SM1 adX1 adM) : JL p l e s m below meth c b D g cells slots 1254 i [] SX SM adX adM := by
  obtain ⟨r, SX1, SM1, hX, hM, hR1⟩ := hB SX SM hR (xs (i + (1 : Int32)).toNatClampNeg) (xs (i + (2 : Int32)).toNatClampNeg) (xs (i + (3 : Int32)).toNatClampNeg)
  have hz1 := h0 _ _ hR1
  refine jl_a1 K dL_1254 ?_
  refine jl_a0 K dL_1255 ?_
  refine jl_i3 K dL_1256 ?_
  refine jl_iconst (v := (1 : Int32)) K dL_1257 (by decide) ?_
  refine jl_iadd K dL_1258 ?_
  refine jl_ld K dL_1259 (hi 1 (by decide) (by decide)) ?_
  refine jl_a0 K dL_1260 ?_
  refine jl_i3 K dL_1261 ?_
  refine jl_iconst (v := (2 : Int32)) K dL_1262 (by decide) ?_
  refine jl_iadd K dL_1263 ?_
  refine jl_ld K dL_1264 (hi 2 (by decide) (by decide)) ?_
  refine jl_a0 K dL_1265 ?_
  refine jl_i3 K dL_1266 ?_
  refine jl_iconst (v := (3 : Int32)) K dL_1267 (by decide) ?_
  refine jl_iadd K dL_1268 ?_
  refine jl_ld K dL_1269 (hi 3 (by decide) (by decide)) ?_
  refine jl_cXI (st := []) (vs := [vI (xs (i + (1 : Int32)).toNatClampNeg), vI (xs (i + (2 : Int32)).toNatClampNeg), vI (xs (i + (3 : Int32)).toNatClampNeg)]) (as := [.int (xs (i + (1 : Int32)).toNatClampNeg), .int (xs (i + (2 : Int32)).toNatClampNeg), .int (xs (i + (3 : Int32)).toNatClampNeg)]) (n := 3) K (c_X7_sheet hX) rfl dL_1270 z766 z767 z768 z1 z769 zd_X7_sheet rfl rfl rfl ⟨by decide, by decide⟩ (Nat.le_of_ble_eq_true rfl) (by constructor <;> omega) hz1.1 (fun _ => rfl) ?_
  refine jl_a2 K dL_1273 ?_
  refine jl_a0 K dL_1274 ?_
  refine jl_i3 K dL_1275 ?_
  refine jl_iconst (v := (1 : Int32)) K dL_1276 (by decide) ?_
  refine jl_iadd K dL_1277 ?_
  refine jl_ld K dL_1278 (hi 1 (by decide) (by decide)) ?_
  refine jl_a0 K dL_1279 ?_
  refine jl_i3 K dL_1280 ?_
  refine jl_iconst (v := (2 : Int32)) K dL_1281 (by decide) ?_
  refine jl_iadd K dL_1282 ?_
  refine jl_ld K dL_1283 (hi 2 (by decide) (by decide)) ?_
  refine jl_a0 K dL_1284 ?_
  refine jl_i3 K dL_1285 ?_
  refine jl_iconst (v := (3 : Int32)) K dL_1286 (by decide) ?_
  refine jl_iadd K dL_1287 ?_
  refine jl_ld K dL_1288 (hi 3 (by decide) (by decide)) ?_
  refine jl_cMI (st := [.int r]) (vs := [vI (xs (i + (1 : Int32)).toNatClampNeg), vI (xs (i + (2 : Int32)).toNatClampNeg), vI (xs (i + (3 : Int32)).toNatClampNeg)]) (as := [.int (xs (i + (1 : Int32)).toNatClampNeg), .int (xs (i + (2 : Int32)).toNatClampNeg), .int (xs (i + (3 : Int32)).toNatClampNeg)]) (n := 3) K (c_X8_sheet hM) rfl dL_1289 z1220 z1221 z1222 z13 z1223 zd_X8_sheet rfl rfl rfl ⟨by decide, by decide⟩ (Nat.le_of_ble_eq_true rfl) (by constructor <;> omega) hz1.2 (fun _ => rfl) ?_
  refine jl_eq (tgt := 1489) K dL_1292 (by decide) ?_
  exact k SX1 SM1 adX hR1
set_option maxRecDepth 100000 in
set_option maxHeartbeats 4000000 in
theorem cs_cell {p : Program} {l : Launch} {e : Env} {s : State} {m : MethodId} {below : List Frame} {meth : Method} {c : Code} {b L : Nat} {xs : Nat → Int32} {D : va_G} {g : Gt} {cells slots : Nat} {i : Int32} {SX SM : Hp} {adX adM : Nat → Nat} {Rel : Hp → Hp → Prop} {fu : Nat} (K : KL p s m meth c b L xs D g) (hB : Al_cell Rel fu) (h0 : ∀ SX SM, Rel SX SM → (0 < SX.1 ∧ (SX.2.1 0).1 = 5) ∧ (0 < SM.1 ∧ (SM.2.1 0).1 = 6)) (hR : Rel SX SM) (hi : ∀ v : Int32, 0 ≤ v → v ≤ 6 → vp_in (i + v) L) (hc : cells + 0 ≤ 600000 ∧ slots + 0 ≤ 7302250)
    (k : ∀ (SX1 SM1 : Hp) (adX1 : Nat → Nat), Rel SX1 SM1 → JL p l e s m below meth c b D g (cells + 0) (slots + 0) 1489 i [] SX1 SM1 adX1 adM) : JL p l e s m below meth c b D g cells slots 1297 i [] SX SM adX adM := by
  obtain ⟨r, SX1, SM1, hX, hM, hR1⟩ := hB SX SM hR (xs (i + (1 : Int32)).toNatClampNeg) (xs (i + (2 : Int32)).toNatClampNeg) (xs (i + (3 : Int32)).toNatClampNeg)
  have hz1 := h0 _ _ hR1
  refine jl_a1 K dL_1297 ?_
  refine jl_a0 K dL_1298 ?_
  refine jl_i3 K dL_1299 ?_
  refine jl_iconst (v := (1 : Int32)) K dL_1300 (by decide) ?_
  refine jl_iadd K dL_1301 ?_
  refine jl_ld K dL_1302 (hi 1 (by decide) (by decide)) ?_
  refine jl_a0 K dL_1303 ?_
  refine jl_i3 K dL_1304 ?_
  refine jl_iconst (v := (2 : Int32)) K dL_1305 (by decide) ?_
  refine jl_iadd K dL_1306 ?_
  refine jl_ld K dL_1307 (hi 2 (by decide) (by decide)) ?_
  refine jl_a0 K dL_1308 ?_
  refine jl_i3 K dL_1309 ?_
  refine jl_iconst (v := (3 : Int32)) K dL_1310 (by decide) ?_
  refine jl_iadd K dL_1311 ?_
  refine jl_ld K dL_1312 (hi 3 (by decide) (by decide)) ?_
  refine jl_cXI (st := []) (vs := [vI (xs (i + (1 : Int32)).toNatClampNeg), vI (xs (i + (2 : Int32)).toNatClampNeg), vI (xs (i + (3 : Int32)).toNatClampNeg)]) (as := [.int (xs (i + (1 : Int32)).toNatClampNeg), .int (xs (i + (2 : Int32)).toNatClampNeg), .int (xs (i + (3 : Int32)).toNatClampNeg)]) (n := 3) K (c_X7_cell hX) rfl dL_1313 z770 z771 z772 z1 z773 zd_X7_cell rfl rfl rfl ⟨by decide, by decide⟩ (Nat.le_of_ble_eq_true rfl) (by constructor <;> omega) hz1.1 (fun _ => rfl) ?_
  refine jl_a2 K dL_1316 ?_
  refine jl_a0 K dL_1317 ?_
  refine jl_i3 K dL_1318 ?_
  refine jl_iconst (v := (1 : Int32)) K dL_1319 (by decide) ?_
  refine jl_iadd K dL_1320 ?_
  refine jl_ld K dL_1321 (hi 1 (by decide) (by decide)) ?_
  refine jl_a0 K dL_1322 ?_
  refine jl_i3 K dL_1323 ?_
  refine jl_iconst (v := (2 : Int32)) K dL_1324 (by decide) ?_
  refine jl_iadd K dL_1325 ?_
  refine jl_ld K dL_1326 (hi 2 (by decide) (by decide)) ?_
  refine jl_a0 K dL_1327 ?_
  refine jl_i3 K dL_1328 ?_
  refine jl_iconst (v := (3 : Int32)) K dL_1329 (by decide) ?_
  refine jl_iadd K dL_1330 ?_
  refine jl_ld K dL_1331 (hi 3 (by decide) (by decide)) ?_
  refine jl_cMI (st := [.int r]) (vs := [vI (xs (i + (1 : Int32)).toNatClampNeg), vI (xs (i + (2 : Int32)).toNatClampNeg), vI (xs (i + (3 : Int32)).toNatClampNeg)]) (as := [.int (xs (i + (1 : Int32)).toNatClampNeg), .int (xs (i + (2 : Int32)).toNatClampNeg), .int (xs (i + (3 : Int32)).toNatClampNeg)]) (n := 3) K (c_X8_cell hM) rfl dL_1332 z1224 z1225 z1226 z13 z1227 zd_X8_cell rfl rfl rfl ⟨by decide, by decide⟩ (Nat.le_of_ble_eq_true rfl) (by constructor <;> omega) hz1.2 (fun _ => rfl) ?_
  refine jl_eq (tgt := 1489) K dL_1335 (by decide) ?_
  exact k SX1 SM1 adX hR1
set_option maxRecDepth 100000 in
set_option maxHeartbeats 4000000 in
theorem cs_copy {p : Program} {l : Launch} {e : Env} {s : State} {m : MethodId} {below : List Frame} {meth : Method} {c : Code} {b L : Nat} {xs : Nat → Int32} {D : va_G} {g : Gt} {cells slots : Nat} {i : Int32} {SX SM : Hp} {adX adM : Nat → Nat} {Rel : Hp → Hp → Prop} {fu : Nat} (K : KL p s m meth c b L xs D g) (hB : Al_copy Rel fu) (h0 : ∀ SX SM, Rel SX SM → (0 < SX.1 ∧ (SX.2.1 0).1 = 5) ∧ (0 < SM.1 ∧ (SM.2.1 0).1 = 6)) (hR : Rel SX SM) (hi : ∀ v : Int32, 0 ≤ v → v ≤ 6 → vp_in (i + v) L) (hc : cells + 0 ≤ 600000 ∧ slots + 0 ≤ 7302250)
    (k : ∀ (SX1 SM1 : Hp) (adX1 : Nat → Nat), Rel SX1 SM1 → JL p l e s m below meth c b D g (cells + 0) (slots + 0) 1489 i [] SX1 SM1 adX1 adM) : JL p l e s m below meth c b D g cells slots 1340 i [] SX SM adX adM := by
  obtain ⟨r, SX1, SM1, hX, hM, hR1⟩ := hB SX SM hR (xs (i + (1 : Int32)).toNatClampNeg) (xs (i + (2 : Int32)).toNatClampNeg) (xs (i + (3 : Int32)).toNatClampNeg) (xs (i + (4 : Int32)).toNatClampNeg) (xs (i + (5 : Int32)).toNatClampNeg)
  have hz1 := h0 _ _ hR1
  refine jl_a1 K dL_1340 ?_
  refine jl_a0 K dL_1341 ?_
  refine jl_i3 K dL_1342 ?_
  refine jl_iconst (v := (1 : Int32)) K dL_1343 (by decide) ?_
  refine jl_iadd K dL_1344 ?_
  refine jl_ld K dL_1345 (hi 1 (by decide) (by decide)) ?_
  refine jl_a0 K dL_1346 ?_
  refine jl_i3 K dL_1347 ?_
  refine jl_iconst (v := (2 : Int32)) K dL_1348 (by decide) ?_
  refine jl_iadd K dL_1349 ?_
  refine jl_ld K dL_1350 (hi 2 (by decide) (by decide)) ?_
  refine jl_a0 K dL_1351 ?_
  refine jl_i3 K dL_1352 ?_
  refine jl_iconst (v := (3 : Int32)) K dL_1353 (by decide) ?_
  refine jl_iadd K dL_1354 ?_
  refine jl_ld K dL_1355 (hi 3 (by decide) (by decide)) ?_
  refine jl_a0 K dL_1356 ?_
  refine jl_i3 K dL_1357 ?_
  refine jl_iconst (v := (4 : Int32)) K dL_1358 (by decide) ?_
  refine jl_iadd K dL_1359 ?_
  refine jl_ld K dL_1360 (hi 4 (by decide) (by decide)) ?_
  refine jl_a0 K dL_1361 ?_
  refine jl_i3 K dL_1362 ?_
  refine jl_iconst (v := (5 : Int32)) K dL_1363 (by decide) ?_
  refine jl_iadd K dL_1364 ?_
  refine jl_ld K dL_1365 (hi 5 (by decide) (by decide)) ?_
  refine jl_cXI (st := []) (vs := [vI (xs (i + (1 : Int32)).toNatClampNeg), vI (xs (i + (2 : Int32)).toNatClampNeg), vI (xs (i + (3 : Int32)).toNatClampNeg), vI (xs (i + (4 : Int32)).toNatClampNeg), vI (xs (i + (5 : Int32)).toNatClampNeg)]) (as := [.int (xs (i + (1 : Int32)).toNatClampNeg), .int (xs (i + (2 : Int32)).toNatClampNeg), .int (xs (i + (3 : Int32)).toNatClampNeg), .int (xs (i + (4 : Int32)).toNatClampNeg), .int (xs (i + (5 : Int32)).toNatClampNeg)]) (n := 5) K (c_X7_copy hX) rfl dL_1366 z775 z776 z777 z1 z778 zd_X7_copy rfl rfl rfl ⟨by decide, by decide⟩ (Nat.le_of_ble_eq_true rfl) (by constructor <;> omega) hz1.1 (fun _ => rfl) ?_
  refine jl_a2 K dL_1369 ?_
  refine jl_a0 K dL_1370 ?_
  refine jl_i3 K dL_1371 ?_
  refine jl_iconst (v := (1 : Int32)) K dL_1372 (by decide) ?_
  refine jl_iadd K dL_1373 ?_
  refine jl_ld K dL_1374 (hi 1 (by decide) (by decide)) ?_
  refine jl_a0 K dL_1375 ?_
  refine jl_i3 K dL_1376 ?_
  refine jl_iconst (v := (2 : Int32)) K dL_1377 (by decide) ?_
  refine jl_iadd K dL_1378 ?_
  refine jl_ld K dL_1379 (hi 2 (by decide) (by decide)) ?_
  refine jl_a0 K dL_1380 ?_
  refine jl_i3 K dL_1381 ?_
  refine jl_iconst (v := (3 : Int32)) K dL_1382 (by decide) ?_
  refine jl_iadd K dL_1383 ?_
  refine jl_ld K dL_1384 (hi 3 (by decide) (by decide)) ?_
  refine jl_a0 K dL_1385 ?_
  refine jl_i3 K dL_1386 ?_
  refine jl_iconst (v := (4 : Int32)) K dL_1387 (by decide) ?_
  refine jl_iadd K dL_1388 ?_
  refine jl_ld K dL_1389 (hi 4 (by decide) (by decide)) ?_
  refine jl_a0 K dL_1390 ?_
  refine jl_i3 K dL_1391 ?_
  refine jl_iconst (v := (5 : Int32)) K dL_1392 (by decide) ?_
  refine jl_iadd K dL_1393 ?_
  refine jl_ld K dL_1394 (hi 5 (by decide) (by decide)) ?_
  refine jl_cMI (st := [.int r]) (vs := [vI (xs (i + (1 : Int32)).toNatClampNeg), vI (xs (i + (2 : Int32)).toNatClampNeg), vI (xs (i + (3 : Int32)).toNatClampNeg), vI (xs (i + (4 : Int32)).toNatClampNeg), vI (xs (i + (5 : Int32)).toNatClampNeg)]) (as := [.int (xs (i + (1 : Int32)).toNatClampNeg), .int (xs (i + (2 : Int32)).toNatClampNeg), .int (xs (i + (3 : Int32)).toNatClampNeg), .int (xs (i + (4 : Int32)).toNatClampNeg), .int (xs (i + (5 : Int32)).toNatClampNeg)]) (n := 5) K (c_X8_copy hM) rfl dL_1395 z1228 z1229 z1230 z13 z1231 zd_X8_copy rfl rfl rfl ⟨by decide, by decide⟩ (Nat.le_of_ble_eq_true rfl) (by constructor <;> omega) hz1.2 (fun _ => rfl) ?_
  refine jl_eq (tgt := 1489) K dL_1398 (by decide) ?_
  exact k SX1 SM1 adX hR1
set_option maxRecDepth 100000 in
set_option maxHeartbeats 4000000 in
theorem cs_peopleBy {p : Program} {l : Launch} {e : Env} {s : State} {m : MethodId} {below : List Frame} {meth : Method} {c : Code} {b L : Nat} {xs : Nat → Int32} {D : va_G} {g : Gt} {cells slots : Nat} {i : Int32} {SX SM : Hp} {adX adM : Nat → Nat} {Rel : Hp → Hp → Prop} {fu : Nat} (K : KL p s m meth c b L xs D g) (hB : Al_peopleBy Rel fu) (h0 : ∀ SX SM, Rel SX SM → (0 < SX.1 ∧ (SX.2.1 0).1 = 5) ∧ (0 < SM.1 ∧ (SM.2.1 0).1 = 6)) (hR : Rel SX SM) (hi : ∀ v : Int32, 0 ≤ v → v ≤ 6 → vp_in (i + v) L) (hc : cells + 0 ≤ 600000 ∧ slots + 0 ≤ 7302250)
    (k : ∀ (SX1 SM1 : Hp) (adX1 : Nat → Nat), Rel SX1 SM1 → JL p l e s m below meth c b D g (cells + 0) (slots + 0) 1489 i [] SX1 SM1 adX1 adM) : JL p l e s m below meth c b D g cells slots 1403 i [] SX SM adX adM := by
  obtain ⟨r, SX1, SM1, hX, hM, hR1⟩ := hB SX SM hR (xs (i + (1 : Int32)).toNatClampNeg) (xs (i + (2 : Int32)).toNatClampNeg) (xs (i + (3 : Int32)).toNatClampNeg) (xs (i + (4 : Int32)).toNatClampNeg)
  have hz1 := h0 _ _ hR1
  refine jl_a1 K dL_1403 ?_
  refine jl_a0 K dL_1404 ?_
  refine jl_i3 K dL_1405 ?_
  refine jl_iconst (v := (1 : Int32)) K dL_1406 (by decide) ?_
  refine jl_iadd K dL_1407 ?_
  refine jl_ld K dL_1408 (hi 1 (by decide) (by decide)) ?_
  refine jl_a0 K dL_1409 ?_
  refine jl_i3 K dL_1410 ?_
  refine jl_iconst (v := (2 : Int32)) K dL_1411 (by decide) ?_
  refine jl_iadd K dL_1412 ?_
  refine jl_ld K dL_1413 (hi 2 (by decide) (by decide)) ?_
  refine jl_a0 K dL_1414 ?_
  refine jl_i3 K dL_1415 ?_
  refine jl_iconst (v := (3 : Int32)) K dL_1416 (by decide) ?_
  refine jl_iadd K dL_1417 ?_
  refine jl_ld K dL_1418 (hi 3 (by decide) (by decide)) ?_
  refine jl_a0 K dL_1419 ?_
  refine jl_i3 K dL_1420 ?_
  refine jl_iconst (v := (4 : Int32)) K dL_1421 (by decide) ?_
  refine jl_iadd K dL_1422 ?_
  refine jl_ld K dL_1423 (hi 4 (by decide) (by decide)) ?_
  refine jl_cXI (st := []) (vs := [vI (xs (i + (1 : Int32)).toNatClampNeg), vI (xs (i + (2 : Int32)).toNatClampNeg), vI (xs (i + (3 : Int32)).toNatClampNeg), vI (xs (i + (4 : Int32)).toNatClampNeg)]) (as := [.int (xs (i + (1 : Int32)).toNatClampNeg), .int (xs (i + (2 : Int32)).toNatClampNeg), .int (xs (i + (3 : Int32)).toNatClampNeg), .int (xs (i + (4 : Int32)).toNatClampNeg)]) (n := 4) K (c_X7_peopleBy hX) rfl dL_1424 z782 z783 z784 z1 z785 zd_X7_peopleBy rfl rfl rfl ⟨by decide, by decide⟩ (Nat.le_of_ble_eq_true rfl) (by constructor <;> omega) hz1.1 (fun _ => rfl) ?_
  refine jl_a2 K dL_1427 ?_
  refine jl_a0 K dL_1428 ?_
  refine jl_i3 K dL_1429 ?_
  refine jl_iconst (v := (1 : Int32)) K dL_1430 (by decide) ?_
  refine jl_iadd K dL_1431 ?_
  refine jl_ld K dL_1432 (hi 1 (by decide) (by decide)) ?_
  refine jl_a0 K dL_1433 ?_
  refine jl_i3 K dL_1434 ?_
  refine jl_iconst (v := (2 : Int32)) K dL_1435 (by decide) ?_
  refine jl_iadd K dL_1436 ?_
  refine jl_ld K dL_1437 (hi 2 (by decide) (by decide)) ?_
  refine jl_a0 K dL_1438 ?_
  refine jl_i3 K dL_1439 ?_
  refine jl_iconst (v := (3 : Int32)) K dL_1440 (by decide) ?_
  refine jl_iadd K dL_1441 ?_
  refine jl_ld K dL_1442 (hi 3 (by decide) (by decide)) ?_
  refine jl_a0 K dL_1443 ?_
  refine jl_i3 K dL_1444 ?_
  refine jl_iconst (v := (4 : Int32)) K dL_1445 (by decide) ?_
  refine jl_iadd K dL_1446 ?_
  refine jl_ld K dL_1447 (hi 4 (by decide) (by decide)) ?_
  refine jl_cMI (st := [.int r]) (vs := [vI (xs (i + (1 : Int32)).toNatClampNeg), vI (xs (i + (2 : Int32)).toNatClampNeg), vI (xs (i + (3 : Int32)).toNatClampNeg), vI (xs (i + (4 : Int32)).toNatClampNeg)]) (as := [.int (xs (i + (1 : Int32)).toNatClampNeg), .int (xs (i + (2 : Int32)).toNatClampNeg), .int (xs (i + (3 : Int32)).toNatClampNeg), .int (xs (i + (4 : Int32)).toNatClampNeg)]) (n := 4) K (c_X8_peopleBy hM) rfl dL_1448 z1232 z1233 z1234 z13 z1235 zd_X8_peopleBy rfl rfl rfl ⟨by decide, by decide⟩ (Nat.le_of_ble_eq_true rfl) (by constructor <;> omega) hz1.2 (fun _ => rfl) ?_
  refine jl_eq (tgt := 1489) K dL_1451 (by decide) ?_
  exact k SX1 SM1 adX hR1
set_option maxRecDepth 100000 in
set_option maxHeartbeats 4000000 in
theorem cs_taken {p : Program} {l : Launch} {e : Env} {s : State} {m : MethodId} {below : List Frame} {meth : Method} {c : Code} {b L : Nat} {xs : Nat → Int32} {D : va_G} {g : Gt} {cells slots : Nat} {i : Int32} {SX SM : Hp} {adX adM : Nat → Nat} {Rel : Hp → Hp → Prop} {fu : Nat} (K : KL p s m meth c b L xs D g) (hB : Al_taken Rel fu) (h0 : ∀ SX SM, Rel SX SM → (0 < SX.1 ∧ (SX.2.1 0).1 = 5) ∧ (0 < SM.1 ∧ (SM.2.1 0).1 = 6)) (hR : Rel SX SM) (hi : ∀ v : Int32, 0 ≤ v → v ≤ 6 → vp_in (i + v) L) (hc : cells + 0 ≤ 600000 ∧ slots + 0 ≤ 7302250)
    (k : ∀ (SX1 SM1 : Hp) (adX1 : Nat → Nat), Rel SX1 SM1 → JL p l e s m below meth c b D g (cells + 0) (slots + 0) 1489 i [] SX1 SM1 adX1 adM) : JL p l e s m below meth c b D g cells slots 1456 i [] SX SM adX adM := by
  obtain ⟨r, SX1, SM1, hX, hM, hR1⟩ := hB SX SM hR (xs (i + (1 : Int32)).toNatClampNeg) (xs (i + (2 : Int32)).toNatClampNeg)
  have hz1 := h0 _ _ hR1
  refine jl_a1 K dL_1456 ?_
  refine jl_a0 K dL_1457 ?_
  refine jl_i3 K dL_1458 ?_
  refine jl_iconst (v := (1 : Int32)) K dL_1459 (by decide) ?_
  refine jl_iadd K dL_1460 ?_
  refine jl_ld K dL_1461 (hi 1 (by decide) (by decide)) ?_
  refine jl_a0 K dL_1462 ?_
  refine jl_i3 K dL_1463 ?_
  refine jl_iconst (v := (2 : Int32)) K dL_1464 (by decide) ?_
  refine jl_iadd K dL_1465 ?_
  refine jl_ld K dL_1466 (hi 2 (by decide) (by decide)) ?_
  refine jl_cXI (st := []) (vs := [vI (xs (i + (1 : Int32)).toNatClampNeg), vI (xs (i + (2 : Int32)).toNatClampNeg)]) (as := [.int (xs (i + (1 : Int32)).toNatClampNeg), .int (xs (i + (2 : Int32)).toNatClampNeg)]) (n := 2) K (c_X7_taken hX) rfl dL_1467 z788 z789 z790 z1 z791 zd_X7_taken rfl rfl rfl ⟨by decide, by decide⟩ (Nat.le_of_ble_eq_true rfl) (by constructor <;> omega) hz1.1 (fun _ => rfl) ?_
  refine jl_a2 K dL_1470 ?_
  refine jl_a0 K dL_1471 ?_
  refine jl_i3 K dL_1472 ?_
  refine jl_iconst (v := (1 : Int32)) K dL_1473 (by decide) ?_
  refine jl_iadd K dL_1474 ?_
  refine jl_ld K dL_1475 (hi 1 (by decide) (by decide)) ?_
  refine jl_a0 K dL_1476 ?_
  refine jl_i3 K dL_1477 ?_
  refine jl_iconst (v := (2 : Int32)) K dL_1478 (by decide) ?_
  refine jl_iadd K dL_1479 ?_
  refine jl_ld K dL_1480 (hi 2 (by decide) (by decide)) ?_
  refine jl_cMI (st := [.int r]) (vs := [vI (xs (i + (1 : Int32)).toNatClampNeg), vI (xs (i + (2 : Int32)).toNatClampNeg)]) (as := [.int (xs (i + (1 : Int32)).toNatClampNeg), .int (xs (i + (2 : Int32)).toNatClampNeg)]) (n := 2) K (c_X8_taken hM) rfl dL_1481 z1237 z1238 z1239 z13 z1240 zd_X8_taken rfl rfl rfl ⟨by decide, by decide⟩ (Nat.le_of_ble_eq_true rfl) (by constructor <;> omega) hz1.2 (fun _ => rfl) ?_
  refine jl_eq (tgt := 1489) K dL_1484 (by decide) ?_
  exact k SX1 SM1 adX hR1
