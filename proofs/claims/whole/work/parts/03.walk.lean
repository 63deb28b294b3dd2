theorem zw_iload {E : ZEnv} {cc : ByteArray} {own : String} {d pc : Nat} {lv : List (Nat × Value)} {st : List Value} {M : ZMem} (hC : ZCx E cc own d) {i : Nat} {x : Int32} (hd : decode cc pc = .ok (.iload i, 2)) (k : Nat) (h : lv[k]? = some (i, .int x)) (kk : ZW E (pc + 2) lv (.int x :: st) M) : ZW E pc lv st M := by
  obtain ⟨p, l, e, R, s, m, args, below, meth, c, cells, slots, Q, D, ad, cA, nL⟩ := E
  intro H locs ls hP hS hl
  exact lv_iload hC.1 hC.2.1 hd (lv_at hl k h) (kk H locs ls hP hS hl)
theorem zw_iload_n {E : ZEnv} {cc : ByteArray} {own : String} {d pc : Nat} {lv : List (Nat × Value)} {st : List Value} {M : ZMem} (hC : ZCx E cc own d) {f : Fin 4} {i : Nat} {x : Int32} (hd : decode cc pc = .ok (.iload_n f, 1)) (hi : (f : Nat) = i) (k : Nat) (h : lv[k]? = some (i, .int x)) (kk : ZW E (pc + 1) lv (.int x :: st) M) : ZW E pc lv st M := by
  obtain ⟨p, l, e, R, s, m, args, below, meth, c, cells, slots, Q, D, ad, cA, nL⟩ := E
  intro H locs ls hP hS hl
  exact lv_iload_n hC.1 hC.2.1 hd hi (lv_at hl k h) (kk H locs ls hP hS hl)
theorem zw_aload {E : ZEnv} {cc : ByteArray} {own : String} {d pc : Nat} {lv : List (Nat × Value)} {st : List Value} {M : ZMem} (hC : ZCx E cc own d) {i : Nat} {x : Nat} (hd : decode cc pc = .ok (.aload i, 2)) (k : Nat) (h : lv[k]? = some (i, .ref x)) (kk : ZW E (pc + 2) lv (.ref x :: st) M) : ZW E pc lv st M := by
  obtain ⟨p, l, e, R, s, m, args, below, meth, c, cells, slots, Q, D, ad, cA, nL⟩ := E
  intro H locs ls hP hS hl
  exact lv_aload hC.1 hC.2.1 hd (lv_at hl k h) (kk H locs ls hP hS hl)
theorem zw_aload_n {E : ZEnv} {cc : ByteArray} {own : String} {d pc : Nat} {lv : List (Nat × Value)} {st : List Value} {M : ZMem} (hC : ZCx E cc own d) {f : Fin 4} {i : Nat} {x : Nat} (hd : decode cc pc = .ok (.aload_n f, 1)) (hi : (f : Nat) = i) (k : Nat) (h : lv[k]? = some (i, .ref x)) (kk : ZW E (pc + 1) lv (.ref x :: st) M) : ZW E pc lv st M := by
  obtain ⟨p, l, e, R, s, m, args, below, meth, c, cells, slots, Q, D, ad, cA, nL⟩ := E
  intro H locs ls hP hS hl
  exact lv_aload_n hC.1 hC.2.1 hd hi (lv_at hl k h) (kk H locs ls hP hS hl)
theorem zw_lload {E : ZEnv} {cc : ByteArray} {own : String} {d pc : Nat} {lv : List (Nat × Value)} {st : List Value} {M : ZMem} (hC : ZCx E cc own d) {i : Nat} {x : Int64} (hd : decode cc pc = .ok (.lload i, 2)) (k : Nat) (h : lv[k]? = some (i, .long x)) (kk : ZW E (pc + 2) lv (.long x :: st) M) : ZW E pc lv st M := by
  obtain ⟨p, l, e, R, s, m, args, below, meth, c, cells, slots, Q, D, ad, cA, nL⟩ := E
  intro H locs ls hP hS hl
  exact lv_lload hC.1 hC.2.1 hd (lv_at hl k h) (kk H locs ls hP hS hl)
theorem zw_lload_n {E : ZEnv} {cc : ByteArray} {own : String} {d pc : Nat} {lv : List (Nat × Value)} {st : List Value} {M : ZMem} (hC : ZCx E cc own d) {f : Fin 4} {i : Nat} {x : Int64} (hd : decode cc pc = .ok (.lload_n f, 1)) (hi : (f : Nat) = i) (k : Nat) (h : lv[k]? = some (i, .long x)) (kk : ZW E (pc + 1) lv (.long x :: st) M) : ZW E pc lv st M := by
  obtain ⟨p, l, e, R, s, m, args, below, meth, c, cells, slots, Q, D, ad, cA, nL⟩ := E
  intro H locs ls hP hS hl
  exact lv_lload_n hC.1 hC.2.1 hd hi (lv_at hl k h) (kk H locs ls hP hS hl)
theorem zw_istore {E : ZEnv} {cc : ByteArray} {own : String} {d pc : Nat} {lv : List (Nat × Value)} {st : List Value} {M : ZMem} (hC : ZCx E cc own d) {i nL : Nat} {x : Int32} {lv' : List (Nat × Value)} (hd : decode cc pc = .ok (.istore i, 2)) (hN : E.2.2.2.2.2.2.2.2.2.2.2.2.2.2.2.2 = nL) (hn : i < nL) (h : (i, Value.int x) :: lv.filter (fun q => !(q.1 == i) && !(q.1 + 1 == i && q.2.category == 2)) = lv') (kk : ZW E (pc + 2) lv' st M) : ZW E pc lv (.int x :: st) M := by
  subst hN
  obtain ⟨p, l, e, R, s, m, args, below, meth, c, cells, slots, Q, D, ad, cA, nL⟩ := E
  intro H locs ls hP hS hl
  exact lv_istore hC.1 hC.2.1 hd hl hn h (fun ls' hl' => kk H locs ls' hP hS hl')
theorem zw_istore_n {E : ZEnv} {cc : ByteArray} {own : String} {d pc : Nat} {lv : List (Nat × Value)} {st : List Value} {M : ZMem} (hC : ZCx E cc own d) {f : Fin 4} {i nL : Nat} {x : Int32} {lv' : List (Nat × Value)} (hd : decode cc pc = .ok (.istore_n f, 1)) (hi : (f : Nat) = i) (hN : E.2.2.2.2.2.2.2.2.2.2.2.2.2.2.2.2 = nL) (hn : i < nL) (h : (i, Value.int x) :: lv.filter (fun q => !(q.1 == i) && !(q.1 + 1 == i && q.2.category == 2)) = lv') (kk : ZW E (pc + 1) lv' st M) : ZW E pc lv (.int x :: st) M := by
  subst hN
  obtain ⟨p, l, e, R, s, m, args, below, meth, c, cells, slots, Q, D, ad, cA, nL⟩ := E
  intro H locs ls hP hS hl
  exact lv_istore_n hC.1 hC.2.1 hd hi hl hn h (fun ls' hl' => kk H locs ls' hP hS hl')
theorem zw_astore {E : ZEnv} {cc : ByteArray} {own : String} {d pc : Nat} {lv : List (Nat × Value)} {st : List Value} {M : ZMem} (hC : ZCx E cc own d) {i nL : Nat} {x : Nat} {lv' : List (Nat × Value)} (hd : decode cc pc = .ok (.astore i, 2)) (hN : E.2.2.2.2.2.2.2.2.2.2.2.2.2.2.2.2 = nL) (hn : i < nL) (h : (i, Value.ref x) :: lv.filter (fun q => !(q.1 == i) && !(q.1 + 1 == i && q.2.category == 2)) = lv') (kk : ZW E (pc + 2) lv' st M) : ZW E pc lv (.ref x :: st) M := by
  subst hN
  obtain ⟨p, l, e, R, s, m, args, below, meth, c, cells, slots, Q, D, ad, cA, nL⟩ := E
  intro H locs ls hP hS hl
  exact lv_astore hC.1 hC.2.1 hd hl hn h (fun ls' hl' => kk H locs ls' hP hS hl')
theorem zw_astore_n {E : ZEnv} {cc : ByteArray} {own : String} {d pc : Nat} {lv : List (Nat × Value)} {st : List Value} {M : ZMem} (hC : ZCx E cc own d) {f : Fin 4} {i nL : Nat} {x : Nat} {lv' : List (Nat × Value)} (hd : decode cc pc = .ok (.astore_n f, 1)) (hi : (f : Nat) = i) (hN : E.2.2.2.2.2.2.2.2.2.2.2.2.2.2.2.2 = nL) (hn : i < nL) (h : (i, Value.ref x) :: lv.filter (fun q => !(q.1 == i) && !(q.1 + 1 == i && q.2.category == 2)) = lv') (kk : ZW E (pc + 1) lv' st M) : ZW E pc lv (.ref x :: st) M := by
  subst hN
  obtain ⟨p, l, e, R, s, m, args, below, meth, c, cells, slots, Q, D, ad, cA, nL⟩ := E
  intro H locs ls hP hS hl
  exact lv_astore_n hC.1 hC.2.1 hd hi hl hn h (fun ls' hl' => kk H locs ls' hP hS hl')
theorem zw_lstore {E : ZEnv} {cc : ByteArray} {own : String} {d pc : Nat} {lv : List (Nat × Value)} {st : List Value} {M : ZMem} (hC : ZCx E cc own d) {i nL : Nat} {x : Int64} {lv' : List (Nat × Value)} (hd : decode cc pc = .ok (.lstore i, 2)) (hN : E.2.2.2.2.2.2.2.2.2.2.2.2.2.2.2.2 = nL) (hn : i + 1 < nL) (h : (i, Value.long x) :: lv.filter (fun q => !(q.1 == i) && (!(q.1 == i + 1) && !(q.1 + 1 == i && q.2.category == 2))) = lv') (kk : ZW E (pc + 2) lv' st M) : ZW E pc lv (.long x :: st) M := by
  subst hN
  obtain ⟨p, l, e, R, s, m, args, below, meth, c, cells, slots, Q, D, ad, cA, nL⟩ := E
  intro H locs ls hP hS hl
  exact lv_lstore hC.1 hC.2.1 hd hl hn h (fun ls' hl' => kk H locs ls' hP hS hl')
theorem zw_lstore_n {E : ZEnv} {cc : ByteArray} {own : String} {d pc : Nat} {lv : List (Nat × Value)} {st : List Value} {M : ZMem} (hC : ZCx E cc own d) {f : Fin 4} {i nL : Nat} {x : Int64} {lv' : List (Nat × Value)} (hd : decode cc pc = .ok (.lstore_n f, 1)) (hi : (f : Nat) = i) (hN : E.2.2.2.2.2.2.2.2.2.2.2.2.2.2.2.2 = nL) (hn : i + 1 < nL) (h : (i, Value.long x) :: lv.filter (fun q => !(q.1 == i) && (!(q.1 == i + 1) && !(q.1 + 1 == i && q.2.category == 2))) = lv') (kk : ZW E (pc + 1) lv' st M) : ZW E pc lv (.long x :: st) M := by
  subst hN
  obtain ⟨p, l, e, R, s, m, args, below, meth, c, cells, slots, Q, D, ad, cA, nL⟩ := E
  intro H locs ls hP hS hl
  exact lv_lstore_n hC.1 hC.2.1 hd hi hl hn h (fun ls' hl' => kk H locs ls' hP hS hl')
theorem zw_iinc {E : ZEnv} {cc : ByteArray} {own : String} {d pc : Nat} {lv : List (Nat × Value)} {st : List Value} {M : ZMem} (hC : ZCx E cc own d) {i nL : Nat} {n : Int} {x v : Int32} {lv' : List (Nat × Value)} (hd : decode cc pc = .ok (.iinc i n, 3)) (k : Nat) (hk : lv[k]? = some (i, .int x)) (hv : Int32.ofInt n = v) (hN : E.2.2.2.2.2.2.2.2.2.2.2.2.2.2.2.2 = nL) (hn : i < nL) (h : (i, Value.int (x + v)) :: lv.filter (fun q => !(q.1 == i) && !(q.1 + 1 == i && q.2.category == 2)) = lv') (kk : ZW E (pc + 3) lv' st M) : ZW E pc lv st M := by
  subst hN
  obtain ⟨p, l, e, R, s, m, args, below, meth, c, cells, slots, Q, D, ad, cA, nL⟩ := E
  intro H locs ls hP hS hl
  exact lv_iinc hC.1 hC.2.1 hd hl (k := k) hk (by rw [hv]) hn h (fun ls' hl' => kk H locs ls' hP hS hl')
theorem zw_iconst {E : ZEnv} {cc : ByteArray} {own : String} {d pc : Nat} {lv : List (Nat × Value)} {st : List Value} {M : ZMem} (hC : ZCx E cc own d) {n : Int} {v : Int32} (hd : decode cc pc = .ok (.iconst n, 1)) (hv : Int32.ofInt n = v) (kk : ZW E (pc + 1) lv (.int v :: st) M) : ZW E pc lv st M := by
  obtain ⟨p, l, e, R, s, m, args, below, meth, c, cells, slots, Q, D, ad, cA, nL⟩ := E
  intro H locs ls hP hS hl
  exact lv_iconst hC.1 hC.2.1 hd hv (kk H locs ls hP hS hl)
theorem zw_bipush {E : ZEnv} {cc : ByteArray} {own : String} {d pc : Nat} {lv : List (Nat × Value)} {st : List Value} {M : ZMem} (hC : ZCx E cc own d) {n : Int} {v : Int32} (hd : decode cc pc = .ok (.bipush n, 2)) (hv : (Int8.ofInt n).toInt32 = v) (kk : ZW E (pc + 2) lv (.int v :: st) M) : ZW E pc lv st M := by
  obtain ⟨p, l, e, R, s, m, args, below, meth, c, cells, slots, Q, D, ad, cA, nL⟩ := E
  intro H locs ls hP hS hl
  exact lv_bipush hC.1 hC.2.1 hd hv (kk H locs ls hP hS hl)
theorem zw_sipush {E : ZEnv} {cc : ByteArray} {own : String} {d pc : Nat} {lv : List (Nat × Value)} {st : List Value} {M : ZMem} (hC : ZCx E cc own d) {n : Int} {v : Int32} (hd : decode cc pc = .ok (.sipush n, 3)) (hv : (Int16.ofInt n).toInt32 = v) (kk : ZW E (pc + 3) lv (.int v :: st) M) : ZW E pc lv st M := by
  obtain ⟨p, l, e, R, s, m, args, below, meth, c, cells, slots, Q, D, ad, cA, nL⟩ := E
  intro H locs ls hP hS hl
  exact lv_sipush hC.1 hC.2.1 hd hv (kk H locs ls hP hS hl)
theorem zw_lconst {E : ZEnv} {cc : ByteArray} {own : String} {d pc : Nat} {lv : List (Nat × Value)} {st : List Value} {M : ZMem} (hC : ZCx E cc own d) {n : Fin 2} {v : Int64} (hd : decode cc pc = .ok (.lconst n, 1)) (hv : Int64.ofNat (n : Nat) = v) (kk : ZW E (pc + 1) lv (.long v :: st) M) : ZW E pc lv st M := by
  obtain ⟨p, l, e, R, s, m, args, below, meth, c, cells, slots, Q, D, ad, cA, nL⟩ := E
  intro H locs ls hP hS hl
  exact lv_lconst hC.1 hC.2.1 hd hv (kk H locs ls hP hS hl)
theorem zw_ldc {E : ZEnv} {cc : ByteArray} {own : String} {d pc : Nat} {lv : List (Nat × Value)} {st : List Value} {M : ZMem} (hC : ZCx E cc own d) {index : Nat} {v : Int32} (hd : decode cc pc = .ok (.ldc index, 2)) (hc : Cond.constant own index v ∈ zTw) (kk : ZW E (pc + 2) lv (.int v :: st) M) : ZW E pc lv st M := by
  obtain ⟨p, l, e, R, s, m, args, below, meth, c, cells, slots, Q, D, ad, cA, nL⟩ := E
  intro H locs ls hP hS hl
  exact lv_ldc hC.1 hC.2.1 hC.2.2.2.1 (hC.2.2.2.2.1 _ hc) hd (kk H locs ls hP hS hl)
theorem zw_ldcw {E : ZEnv} {cc : ByteArray} {own : String} {d pc : Nat} {lv : List (Nat × Value)} {st : List Value} {M : ZMem} (hC : ZCx E cc own d) {index : Nat} {v : Int32} (hd : decode cc pc = .ok (.ldc_w index, 3)) (hc : Cond.constant own index v ∈ zTw) (kk : ZW E (pc + 3) lv (.int v :: st) M) : ZW E pc lv st M := by
  obtain ⟨p, l, e, R, s, m, args, below, meth, c, cells, slots, Q, D, ad, cA, nL⟩ := E
  intro H locs ls hP hS hl
  exact lv_ldcw hC.1 hC.2.1 hC.2.2.2.1 (hC.2.2.2.2.1 _ hc) hd (kk H locs ls hP hS hl)
theorem zw_ldc2 {E : ZEnv} {cc : ByteArray} {own : String} {d pc : Nat} {lv : List (Nat × Value)} {st : List Value} {M : ZMem} (hC : ZCx E cc own d) {index : Nat} {v : Int64} (hd : decode cc pc = .ok (.ldc2_w index, 3)) (hc : Cond.constantLong own index v ∈ zTw) (kk : ZW E (pc + 3) lv (.long v :: st) M) : ZW E pc lv st M := by
  obtain ⟨p, l, e, R, s, m, args, below, meth, c, cells, slots, Q, D, ad, cA, nL⟩ := E
  intro H locs ls hP hS hl
  exact lv_ldc2 hC.1 hC.2.1 hC.2.2.2.1 (hC.2.2.2.2.1 _ hc) hd (kk H locs ls hP hS hl)
theorem zw_iadd {E : ZEnv} {cc : ByteArray} {own : String} {d pc : Nat} {lv : List (Nat × Value)} {st : List Value} {M : ZMem} (hC : ZCx E cc own d) {x y : Int32} (hd : decode cc pc = .ok (.iadd, 1)) (kk : ZW E (pc + 1) lv (.int (x + y) :: st) M) : ZW E pc lv (.int y :: .int x :: st) M := by
  obtain ⟨p, l, e, R, s, m, args, below, meth, c, cells, slots, Q, D, ad, cA, nL⟩ := E
  intro H locs ls hP hS hl
  exact lv_iadd hC.1 hC.2.1 hd (kk H locs ls hP hS hl)
theorem zw_isub {E : ZEnv} {cc : ByteArray} {own : String} {d pc : Nat} {lv : List (Nat × Value)} {st : List Value} {M : ZMem} (hC : ZCx E cc own d) {x y : Int32} (hd : decode cc pc = .ok (.isub, 1)) (kk : ZW E (pc + 1) lv (.int (x - y) :: st) M) : ZW E pc lv (.int y :: .int x :: st) M := by
  obtain ⟨p, l, e, R, s, m, args, below, meth, c, cells, slots, Q, D, ad, cA, nL⟩ := E
  intro H locs ls hP hS hl
  exact lv_isub hC.1 hC.2.1 hd (kk H locs ls hP hS hl)
theorem zw_imul {E : ZEnv} {cc : ByteArray} {own : String} {d pc : Nat} {lv : List (Nat × Value)} {st : List Value} {M : ZMem} (hC : ZCx E cc own d) {x y : Int32} (hd : decode cc pc = .ok (.imul, 1)) (kk : ZW E (pc + 1) lv (.int (x * y) :: st) M) : ZW E pc lv (.int y :: .int x :: st) M := by
  obtain ⟨p, l, e, R, s, m, args, below, meth, c, cells, slots, Q, D, ad, cA, nL⟩ := E
  intro H locs ls hP hS hl
  exact lv_imul hC.1 hC.2.1 hd (kk H locs ls hP hS hl)
theorem zw_iand {E : ZEnv} {cc : ByteArray} {own : String} {d pc : Nat} {lv : List (Nat × Value)} {st : List Value} {M : ZMem} (hC : ZCx E cc own d) {x y : Int32} (hd : decode cc pc = .ok (.iand, 1)) (kk : ZW E (pc + 1) lv (.int (x &&& y) :: st) M) : ZW E pc lv (.int y :: .int x :: st) M := by
  obtain ⟨p, l, e, R, s, m, args, below, meth, c, cells, slots, Q, D, ad, cA, nL⟩ := E
  intro H locs ls hP hS hl
  exact lv_iand hC.1 hC.2.1 hd (kk H locs ls hP hS hl)
theorem zw_ior {E : ZEnv} {cc : ByteArray} {own : String} {d pc : Nat} {lv : List (Nat × Value)} {st : List Value} {M : ZMem} (hC : ZCx E cc own d) {x y : Int32} (hd : decode cc pc = .ok (.ior, 1)) (kk : ZW E (pc + 1) lv (.int (x ||| y) :: st) M) : ZW E pc lv (.int y :: .int x :: st) M := by
  obtain ⟨p, l, e, R, s, m, args, below, meth, c, cells, slots, Q, D, ad, cA, nL⟩ := E
  intro H locs ls hP hS hl
  exact lv_ior hC.1 hC.2.1 hd (kk H locs ls hP hS hl)
theorem zw_ixor {E : ZEnv} {cc : ByteArray} {own : String} {d pc : Nat} {lv : List (Nat × Value)} {st : List Value} {M : ZMem} (hC : ZCx E cc own d) {x y : Int32} (hd : decode cc pc = .ok (.ixor, 1)) (kk : ZW E (pc + 1) lv (.int (x ^^^ y) :: st) M) : ZW E pc lv (.int y :: .int x :: st) M := by
  obtain ⟨p, l, e, R, s, m, args, below, meth, c, cells, slots, Q, D, ad, cA, nL⟩ := E
  intro H locs ls hP hS hl
  exact lv_ixor hC.1 hC.2.1 hd (kk H locs ls hP hS hl)
theorem zw_ishl {E : ZEnv} {cc : ByteArray} {own : String} {d pc : Nat} {lv : List (Nat × Value)} {st : List Value} {M : ZMem} (hC : ZCx E cc own d) {x y : Int32} (hd : decode cc pc = .ok (.ishl, 1)) (kk : ZW E (pc + 1) lv (.int (x <<< (y &&& 31)) :: st) M) : ZW E pc lv (.int y :: .int x :: st) M := by
  obtain ⟨p, l, e, R, s, m, args, below, meth, c, cells, slots, Q, D, ad, cA, nL⟩ := E
  intro H locs ls hP hS hl
  exact lv_ishl hC.1 hC.2.1 hd (kk H locs ls hP hS hl)
theorem zw_ishr {E : ZEnv} {cc : ByteArray} {own : String} {d pc : Nat} {lv : List (Nat × Value)} {st : List Value} {M : ZMem} (hC : ZCx E cc own d) {x y : Int32} (hd : decode cc pc = .ok (.ishr, 1)) (kk : ZW E (pc + 1) lv (.int (x >>> (y &&& 31)) :: st) M) : ZW E pc lv (.int y :: .int x :: st) M := by
  obtain ⟨p, l, e, R, s, m, args, below, meth, c, cells, slots, Q, D, ad, cA, nL⟩ := E
  intro H locs ls hP hS hl
  exact lv_ishr hC.1 hC.2.1 hd (kk H locs ls hP hS hl)
theorem zw_iushr {E : ZEnv} {cc : ByteArray} {own : String} {d pc : Nat} {lv : List (Nat × Value)} {st : List Value} {M : ZMem} (hC : ZCx E cc own d) {x y : Int32} (hd : decode cc pc = .ok (.iushr, 1)) (kk : ZW E (pc + 1) lv (.int ((x.toUInt32 >>> (y.toUInt32 &&& Int32.toUInt32 31)).toInt32) :: st) M) : ZW E pc lv (.int y :: .int x :: st) M := by
  obtain ⟨p, l, e, R, s, m, args, below, meth, c, cells, slots, Q, D, ad, cA, nL⟩ := E
  intro H locs ls hP hS hl
  exact lv_iushr hC.1 hC.2.1 hd rfl (kk H locs ls hP hS hl)
theorem zw_ladd {E : ZEnv} {cc : ByteArray} {own : String} {d pc : Nat} {lv : List (Nat × Value)} {st : List Value} {M : ZMem} (hC : ZCx E cc own d) {x y : Int64} (hd : decode cc pc = .ok (.ladd, 1)) (kk : ZW E (pc + 1) lv (.long (x + y) :: st) M) : ZW E pc lv (.long y :: .long x :: st) M := by
  obtain ⟨p, l, e, R, s, m, args, below, meth, c, cells, slots, Q, D, ad, cA, nL⟩ := E
  intro H locs ls hP hS hl
  exact lv_ladd hC.1 hC.2.1 hd (kk H locs ls hP hS hl)
theorem zw_lsub {E : ZEnv} {cc : ByteArray} {own : String} {d pc : Nat} {lv : List (Nat × Value)} {st : List Value} {M : ZMem} (hC : ZCx E cc own d) {x y : Int64} (hd : decode cc pc = .ok (.lsub, 1)) (kk : ZW E (pc + 1) lv (.long (x - y) :: st) M) : ZW E pc lv (.long y :: .long x :: st) M := by
  obtain ⟨p, l, e, R, s, m, args, below, meth, c, cells, slots, Q, D, ad, cA, nL⟩ := E
  intro H locs ls hP hS hl
  exact lv_lsub hC.1 hC.2.1 hd (kk H locs ls hP hS hl)
theorem zw_lmul {E : ZEnv} {cc : ByteArray} {own : String} {d pc : Nat} {lv : List (Nat × Value)} {st : List Value} {M : ZMem} (hC : ZCx E cc own d) {x y : Int64} (hd : decode cc pc = .ok (.lmul, 1)) (kk : ZW E (pc + 1) lv (.long (x * y) :: st) M) : ZW E pc lv (.long y :: .long x :: st) M := by
  obtain ⟨p, l, e, R, s, m, args, below, meth, c, cells, slots, Q, D, ad, cA, nL⟩ := E
  intro H locs ls hP hS hl
  exact lv_lmul hC.1 hC.2.1 hd (kk H locs ls hP hS hl)
theorem zw_ineg {E : ZEnv} {cc : ByteArray} {own : String} {d pc : Nat} {lv : List (Nat × Value)} {st : List Value} {M : ZMem} (hC : ZCx E cc own d) {x : Int32} (hd : decode cc pc = .ok (.ineg, 1)) (kk : ZW E (pc + 1) lv (.int (-x) :: st) M) : ZW E pc lv (.int x :: st) M := by
  obtain ⟨p, l, e, R, s, m, args, below, meth, c, cells, slots, Q, D, ad, cA, nL⟩ := E
  intro H locs ls hP hS hl
  exact lv_ineg hC.1 hC.2.1 hd (kk H locs ls hP hS hl)
theorem zw_i2l {E : ZEnv} {cc : ByteArray} {own : String} {d pc : Nat} {lv : List (Nat × Value)} {st : List Value} {M : ZMem} (hC : ZCx E cc own d) {x : Int32} (hd : decode cc pc = .ok (.i2l, 1)) (kk : ZW E (pc + 1) lv (.long x.toInt64 :: st) M) : ZW E pc lv (.int x :: st) M := by
  obtain ⟨p, l, e, R, s, m, args, below, meth, c, cells, slots, Q, D, ad, cA, nL⟩ := E
  intro H locs ls hP hS hl
  exact lv_i2l hC.1 hC.2.1 hd rfl (kk H locs ls hP hS hl)
theorem zw_l2i {E : ZEnv} {cc : ByteArray} {own : String} {d pc : Nat} {lv : List (Nat × Value)} {st : List Value} {M : ZMem} (hC : ZCx E cc own d) {x : Int64} (hd : decode cc pc = .ok (.l2i, 1)) (kk : ZW E (pc + 1) lv (.int x.toInt32 :: st) M) : ZW E pc lv (.long x :: st) M := by
  obtain ⟨p, l, e, R, s, m, args, below, meth, c, cells, slots, Q, D, ad, cA, nL⟩ := E
  intro H locs ls hP hS hl
  exact lv_l2i hC.1 hC.2.1 hd rfl (kk H locs ls hP hS hl)
theorem zw_i2b {E : ZEnv} {cc : ByteArray} {own : String} {d pc : Nat} {lv : List (Nat × Value)} {st : List Value} {M : ZMem} (hC : ZCx E cc own d) {x : Int32} (hd : decode cc pc = .ok (.i2b, 1)) (kk : ZW E (pc + 1) lv (.int x.toInt8.toInt32 :: st) M) : ZW E pc lv (.int x :: st) M := by
  obtain ⟨p, l, e, R, s, m, args, below, meth, c, cells, slots, Q, D, ad, cA, nL⟩ := E
  intro H locs ls hP hS hl
  exact lv_i2b hC.1 hC.2.1 hd rfl (kk H locs ls hP hS hl)
theorem zw_lcmp {E : ZEnv} {cc : ByteArray} {own : String} {d pc : Nat} {lv : List (Nat × Value)} {st : List Value} {M : ZMem} (hC : ZCx E cc own d) {x y : Int64} (hd : decode cc pc = .ok (.lcmp, 1)) (kk : ZW E (pc + 1) lv (.int (lg_cmp x y) :: st) M) : ZW E pc lv (.long y :: .long x :: st) M := by
  obtain ⟨p, l, e, R, s, m, args, below, meth, c, cells, slots, Q, D, ad, cA, nL⟩ := E
  intro H locs ls hP hS hl
  exact W.lcmp hC.1 hC.2.1 hd (kk H locs ls hP hS hl)
def zdiv {β : Type} (x y : Int32) (K : Int32 → Option β) : Option β := if y = 0 then none else K (x / y)
def zrem {β : Type} (x y : Int32) (K : Int32 → Option β) : Option β := if y = 0 then none else K (x - x / y * y)
def zldiv {β : Type} (x y : Int64) (K : Int64 → Option β) : Option β := if y = 0 then none else K (x / y)
def zlrem {β : Type} (x y : Int64) (K : Int64 → Option β) : Option β := if y = 0 then none else K (x - x / y * y)
theorem zw_idiv {E : ZEnv} {cc : ByteArray} {own : String} {d pc : Nat} {lv : List (Nat × Value)} {st : List Value} {M : ZMem} (hC : ZCx E cc own d) {x y : Int32} {β : Type} {K : Int32 → Option β} {r : β} (hf : zdiv x y K = some r) (hd : decode cc pc = .ok (.idiv, 1)) (kk : ∀ v, K v = some r → ZW E (pc + 1) lv (.int v :: st) M) : ZW E pc lv (.int y :: .int x :: st) M := by
  unfold zdiv at hf
  split at hf
  · cases hf
  · rename_i hy
    have kk := kk _ hf
    obtain ⟨p, l, e, R, s, m, args, below, meth, c, cells, slots, Q, D, ad, cA, nL⟩ := E
    intro H locs ls hP hS hl
    exact lv_idiv hC.1 hC.2.1 hd hy (kk H locs ls hP hS hl)
theorem zw_irem {E : ZEnv} {cc : ByteArray} {own : String} {d pc : Nat} {lv : List (Nat × Value)} {st : List Value} {M : ZMem} (hC : ZCx E cc own d) {x y : Int32} {β : Type} {K : Int32 → Option β} {r : β} (hf : zrem x y K = some r) (hd : decode cc pc = .ok (.irem, 1)) (kk : ∀ v, K v = some r → ZW E (pc + 1) lv (.int v :: st) M) : ZW E pc lv (.int y :: .int x :: st) M := by
  unfold zrem at hf
  split at hf
  · cases hf
  · rename_i hy
    have kk := kk _ hf
    obtain ⟨p, l, e, R, s, m, args, below, meth, c, cells, slots, Q, D, ad, cA, nL⟩ := E
    intro H locs ls hP hS hl
    exact lv_irem hC.1 hC.2.1 hd hy (kk H locs ls hP hS hl)
theorem zw_ldiv {E : ZEnv} {cc : ByteArray} {own : String} {d pc : Nat} {lv : List (Nat × Value)} {st : List Value} {M : ZMem} (hC : ZCx E cc own d) {x y : Int64} {β : Type} {K : Int64 → Option β} {r : β} (hf : zldiv x y K = some r) (hd : decode cc pc = .ok (.ldiv, 1)) (kk : ∀ v, K v = some r → ZW E (pc + 1) lv (.long v :: st) M) : ZW E pc lv (.long y :: .long x :: st) M := by
  unfold zldiv at hf
  split at hf
  · cases hf
  · rename_i hy
    have kk := kk _ hf
    obtain ⟨p, l, e, R, s, m, args, below, meth, c, cells, slots, Q, D, ad, cA, nL⟩ := E
    intro H locs ls hP hS hl
    exact lv_ldiv hC.1 hC.2.1 hd hy (kk H locs ls hP hS hl)
theorem zw_lrem {E : ZEnv} {cc : ByteArray} {own : String} {d pc : Nat} {lv : List (Nat × Value)} {st : List Value} {M : ZMem} (hC : ZCx E cc own d) {x y : Int64} {β : Type} {K : Int64 → Option β} {r : β} (hf : zlrem x y K = some r) (hd : decode cc pc = .ok (.lrem, 1)) (kk : ∀ v, K v = some r → ZW E (pc + 1) lv (.long v :: st) M) : ZW E pc lv (.long y :: .long x :: st) M := by
  unfold zlrem at hf
  split at hf
  · cases hf
  · rename_i hy
    have kk := kk _ hf
    obtain ⟨p, l, e, R, s, m, args, below, meth, c, cells, slots, Q, D, ad, cA, nL⟩ := E
    intro H locs ls hP hS hl
    exact lv_lrem hC.1 hC.2.1 hd hy (kk H locs ls hP hS hl)
theorem zw_dup {E : ZEnv} {cc : ByteArray} {own : String} {d pc : Nat} {lv : List (Nat × Value)} {st : List Value} {M : ZMem} (hC : ZCx E cc own d) {v : Value} (hd : decode cc pc = .ok (.dup, 1)) (hv : v.category = 1) (kk : ZW E (pc + 1) lv (v :: v :: st) M) : ZW E pc lv (v :: st) M := by
  obtain ⟨p, l, e, R, s, m, args, below, meth, c, cells, slots, Q, D, ad, cA, nL⟩ := E
  intro H locs ls hP hS hl
  exact lv_dup hC.1 hC.2.1 hd hv (kk H locs ls hP hS hl)
theorem zw_dup2 {E : ZEnv} {cc : ByteArray} {own : String} {d pc : Nat} {lv : List (Nat × Value)} {st : List Value} {M : ZMem} (hC : ZCx E cc own d) {v u : Value} (hd : decode cc pc = .ok (.dup2, 1)) (hv : v.category = 1) (hu : u.category = 1) (kk : ZW E (pc + 1) lv (v :: u :: v :: u :: st) M) : ZW E pc lv (v :: u :: st) M := by
  obtain ⟨p, l, e, R, s, m, args, below, meth, c, cells, slots, Q, D, ad, cA, nL⟩ := E
  intro H locs ls hP hS hl
  exact lv_dup2_11 hC.1 hC.2.1 hd hv hu (kk H locs ls hP hS hl)
theorem zw_pop {E : ZEnv} {cc : ByteArray} {own : String} {d pc : Nat} {lv : List (Nat × Value)} {st : List Value} {M : ZMem} (hC : ZCx E cc own d) {v : Value} (hd : decode cc pc = .ok (.pop, 1)) (hv : v.category = 1) (kk : ZW E (pc + 1) lv st M) : ZW E pc lv (v :: st) M := by
  obtain ⟨p, l, e, R, s, m, args, below, meth, c, cells, slots, Q, D, ad, cA, nL⟩ := E
  intro H locs ls hP hS hl
  exact lv_pop hC.1 hC.2.1 hd hv (kk H locs ls hP hS hl)
theorem zw_goto {E : ZEnv} {cc : ByteArray} {own : String} {d pc : Nat} {lv : List (Nat × Value)} {st : List Value} {M : ZMem} (hC : ZCx E cc own d) {off : Int} (tgt : Nat) (hd : decode cc pc = .ok (.goto off, 3)) (ht : (pc : Int) + off = (tgt : Int)) (kk : ZW E tgt lv st M) : ZW E pc lv st M := by
  obtain ⟨p, l, e, R, s, m, args, below, meth, c, cells, slots, Q, D, ad, cA, nL⟩ := E
  intro H locs ls hP hS hl
  exact lv_goto hC.1 hC.2.1 hd ht (kk H locs ls hP hS hl)
theorem zw_if_eq {E : ZEnv} {cc : ByteArray} {own : String} {d pc : Nat} {lv : List (Nat × Value)} {st : List Value} {M : ZMem} (hC : ZCx E cc own d) {x : Int32} {β : Type} {A B : Option β} {r : β} {off : Int} (tgt : Nat) (hf : (if x = 0 then A else B) = some r) (hd : decode cc pc = .ok (.ifCond .eq off, 3)) (ht : (pc : Int) + off = (tgt : Int)) (kt : A = some r → ZW E tgt lv st M) (kf : B = some r → ZW E (pc + 3) lv st M) : ZW E pc lv (.int x :: st) M := by
  obtain ⟨p, l, e, R, s, m, args, below, meth, c, cells, slots, Q, D, ad, cA, nL⟩ := E
  intro H locs ls hP hS hl
  exact lv_if_eq hC.1 hC.2.1 hd ht (fun h => kt (by rw [if_pos h] at hf; exact hf) H locs ls hP hS hl) (fun h => kf (by rw [if_neg h] at hf; exact hf) H locs ls hP hS hl)
theorem zw_if_ne {E : ZEnv} {cc : ByteArray} {own : String} {d pc : Nat} {lv : List (Nat × Value)} {st : List Value} {M : ZMem} (hC : ZCx E cc own d) {x : Int32} {β : Type} {A B : Option β} {r : β} {off : Int} (tgt : Nat) (hf : (if x = 0 then B else A) = some r) (hd : decode cc pc = .ok (.ifCond .ne off, 3)) (ht : (pc : Int) + off = (tgt : Int)) (kt : A = some r → ZW E tgt lv st M) (kf : B = some r → ZW E (pc + 3) lv st M) : ZW E pc lv (.int x :: st) M := by
  obtain ⟨p, l, e, R, s, m, args, below, meth, c, cells, slots, Q, D, ad, cA, nL⟩ := E
  intro H locs ls hP hS hl
  exact lv_if_ne hC.1 hC.2.1 hd ht (fun h => kt (by rw [if_neg h] at hf; exact hf) H locs ls hP hS hl) (fun h => kf (by rw [if_pos h] at hf; exact hf) H locs ls hP hS hl)
theorem zw_if_lt {E : ZEnv} {cc : ByteArray} {own : String} {d pc : Nat} {lv : List (Nat × Value)} {st : List Value} {M : ZMem} (hC : ZCx E cc own d) {x : Int32} {β : Type} {A B : Option β} {r : β} {off : Int} (tgt : Nat) (hf : (if x < 0 then A else B) = some r) (hd : decode cc pc = .ok (.ifCond .lt off, 3)) (ht : (pc : Int) + off = (tgt : Int)) (kt : A = some r → ZW E tgt lv st M) (kf : B = some r → ZW E (pc + 3) lv st M) : ZW E pc lv (.int x :: st) M := by
  obtain ⟨p, l, e, R, s, m, args, below, meth, c, cells, slots, Q, D, ad, cA, nL⟩ := E
  intro H locs ls hP hS hl
  exact lv_if_lt hC.1 hC.2.1 hd ht (fun h => kt (by rw [if_pos h] at hf; exact hf) H locs ls hP hS hl) (fun h => kf (by rw [if_neg h] at hf; exact hf) H locs ls hP hS hl)
theorem zw_if_ge {E : ZEnv} {cc : ByteArray} {own : String} {d pc : Nat} {lv : List (Nat × Value)} {st : List Value} {M : ZMem} (hC : ZCx E cc own d) {x : Int32} {β : Type} {A B : Option β} {r : β} {off : Int} (tgt : Nat) (hf : (if 0 ≤ x then A else B) = some r) (hd : decode cc pc = .ok (.ifCond .ge off, 3)) (ht : (pc : Int) + off = (tgt : Int)) (kt : A = some r → ZW E tgt lv st M) (kf : B = some r → ZW E (pc + 3) lv st M) : ZW E pc lv (.int x :: st) M := by
  obtain ⟨p, l, e, R, s, m, args, below, meth, c, cells, slots, Q, D, ad, cA, nL⟩ := E
  intro H locs ls hP hS hl
  exact lv_if_ge hC.1 hC.2.1 hd ht (fun h => kt (by rw [if_pos h] at hf; exact hf) H locs ls hP hS hl) (fun h => kf (by rw [if_neg h] at hf; exact hf) H locs ls hP hS hl)
theorem zw_if_gt {E : ZEnv} {cc : ByteArray} {own : String} {d pc : Nat} {lv : List (Nat × Value)} {st : List Value} {M : ZMem} (hC : ZCx E cc own d) {x : Int32} {β : Type} {A B : Option β} {r : β} {off : Int} (tgt : Nat) (hf : (if 0 < x then A else B) = some r) (hd : decode cc pc = .ok (.ifCond .gt off, 3)) (ht : (pc : Int) + off = (tgt : Int)) (kt : A = some r → ZW E tgt lv st M) (kf : B = some r → ZW E (pc + 3) lv st M) : ZW E pc lv (.int x :: st) M := by
  obtain ⟨p, l, e, R, s, m, args, below, meth, c, cells, slots, Q, D, ad, cA, nL⟩ := E
  intro H locs ls hP hS hl
  exact lv_if_gt hC.1 hC.2.1 hd ht (fun h => kt (by rw [if_pos h] at hf; exact hf) H locs ls hP hS hl) (fun h => kf (by rw [if_neg h] at hf; exact hf) H locs ls hP hS hl)
theorem zw_if_le {E : ZEnv} {cc : ByteArray} {own : String} {d pc : Nat} {lv : List (Nat × Value)} {st : List Value} {M : ZMem} (hC : ZCx E cc own d) {x : Int32} {β : Type} {A B : Option β} {r : β} {off : Int} (tgt : Nat) (hf : (if x ≤ 0 then A else B) = some r) (hd : decode cc pc = .ok (.ifCond .le off, 3)) (ht : (pc : Int) + off = (tgt : Int)) (kt : A = some r → ZW E tgt lv st M) (kf : B = some r → ZW E (pc + 3) lv st M) : ZW E pc lv (.int x :: st) M := by
  obtain ⟨p, l, e, R, s, m, args, below, meth, c, cells, slots, Q, D, ad, cA, nL⟩ := E
  intro H locs ls hP hS hl
  exact lv_if_le hC.1 hC.2.1 hd ht (fun h => kt (by rw [if_pos h] at hf; exact hf) H locs ls hP hS hl) (fun h => kf (by rw [if_neg h] at hf; exact hf) H locs ls hP hS hl)
theorem zw_icmp_eq {E : ZEnv} {cc : ByteArray} {own : String} {d pc : Nat} {lv : List (Nat × Value)} {st : List Value} {M : ZMem} (hC : ZCx E cc own d) {x y : Int32} {β : Type} {A B : Option β} {r : β} {off : Int} (tgt : Nat) (hf : (if x = y then A else B) = some r) (hd : decode cc pc = .ok (.if_icmp .eq off, 3)) (ht : (pc : Int) + off = (tgt : Int)) (kt : A = some r → ZW E tgt lv st M) (kf : B = some r → ZW E (pc + 3) lv st M) : ZW E pc lv (.int y :: .int x :: st) M := by
  obtain ⟨p, l, e, R, s, m, args, below, meth, c, cells, slots, Q, D, ad, cA, nL⟩ := E
  intro H locs ls hP hS hl
  exact lv_icmp_eq hC.1 hC.2.1 hd ht (fun h => kt (by rw [if_pos h] at hf; exact hf) H locs ls hP hS hl) (fun h => kf (by rw [if_neg h] at hf; exact hf) H locs ls hP hS hl)
theorem zw_icmp_ne {E : ZEnv} {cc : ByteArray} {own : String} {d pc : Nat} {lv : List (Nat × Value)} {st : List Value} {M : ZMem} (hC : ZCx E cc own d) {x y : Int32} {β : Type} {A B : Option β} {r : β} {off : Int} (tgt : Nat) (hf : (if x = y then B else A) = some r) (hd : decode cc pc = .ok (.if_icmp .ne off, 3)) (ht : (pc : Int) + off = (tgt : Int)) (kt : A = some r → ZW E tgt lv st M) (kf : B = some r → ZW E (pc + 3) lv st M) : ZW E pc lv (.int y :: .int x :: st) M := by
  obtain ⟨p, l, e, R, s, m, args, below, meth, c, cells, slots, Q, D, ad, cA, nL⟩ := E
  intro H locs ls hP hS hl
  exact lv_icmp_ne hC.1 hC.2.1 hd ht (fun h => kt (by rw [if_neg h] at hf; exact hf) H locs ls hP hS hl) (fun h => kf (by rw [if_pos h] at hf; exact hf) H locs ls hP hS hl)
theorem zw_icmp_lt {E : ZEnv} {cc : ByteArray} {own : String} {d pc : Nat} {lv : List (Nat × Value)} {st : List Value} {M : ZMem} (hC : ZCx E cc own d) {x y : Int32} {β : Type} {A B : Option β} {r : β} {off : Int} (tgt : Nat) (hf : (if x < y then A else B) = some r) (hd : decode cc pc = .ok (.if_icmp .lt off, 3)) (ht : (pc : Int) + off = (tgt : Int)) (kt : A = some r → ZW E tgt lv st M) (kf : B = some r → ZW E (pc + 3) lv st M) : ZW E pc lv (.int y :: .int x :: st) M := by
  obtain ⟨p, l, e, R, s, m, args, below, meth, c, cells, slots, Q, D, ad, cA, nL⟩ := E
  intro H locs ls hP hS hl
  exact lv_icmp_lt hC.1 hC.2.1 hd ht (fun h => kt (by rw [if_pos h] at hf; exact hf) H locs ls hP hS hl) (fun h => kf (by rw [if_neg h] at hf; exact hf) H locs ls hP hS hl)
theorem zw_icmp_ge {E : ZEnv} {cc : ByteArray} {own : String} {d pc : Nat} {lv : List (Nat × Value)} {st : List Value} {M : ZMem} (hC : ZCx E cc own d) {x y : Int32} {β : Type} {A B : Option β} {r : β} {off : Int} (tgt : Nat) (hf : (if y ≤ x then A else B) = some r) (hd : decode cc pc = .ok (.if_icmp .ge off, 3)) (ht : (pc : Int) + off = (tgt : Int)) (kt : A = some r → ZW E tgt lv st M) (kf : B = some r → ZW E (pc + 3) lv st M) : ZW E pc lv (.int y :: .int x :: st) M := by
  obtain ⟨p, l, e, R, s, m, args, below, meth, c, cells, slots, Q, D, ad, cA, nL⟩ := E
  intro H locs ls hP hS hl
  exact lv_icmp_ge hC.1 hC.2.1 hd ht (fun h => kt (by rw [if_pos h] at hf; exact hf) H locs ls hP hS hl) (fun h => kf (by rw [if_neg h] at hf; exact hf) H locs ls hP hS hl)
theorem zw_icmp_gt {E : ZEnv} {cc : ByteArray} {own : String} {d pc : Nat} {lv : List (Nat × Value)} {st : List Value} {M : ZMem} (hC : ZCx E cc own d) {x y : Int32} {β : Type} {A B : Option β} {r : β} {off : Int} (tgt : Nat) (hf : (if y < x then A else B) = some r) (hd : decode cc pc = .ok (.if_icmp .gt off, 3)) (ht : (pc : Int) + off = (tgt : Int)) (kt : A = some r → ZW E tgt lv st M) (kf : B = some r → ZW E (pc + 3) lv st M) : ZW E pc lv (.int y :: .int x :: st) M := by
  obtain ⟨p, l, e, R, s, m, args, below, meth, c, cells, slots, Q, D, ad, cA, nL⟩ := E
  intro H locs ls hP hS hl
  exact lv_icmp_gt hC.1 hC.2.1 hd ht (fun h => kt (by rw [if_pos h] at hf; exact hf) H locs ls hP hS hl) (fun h => kf (by rw [if_neg h] at hf; exact hf) H locs ls hP hS hl)
theorem zw_icmp_le {E : ZEnv} {cc : ByteArray} {own : String} {d pc : Nat} {lv : List (Nat × Value)} {st : List Value} {M : ZMem} (hC : ZCx E cc own d) {x y : Int32} {β : Type} {A B : Option β} {r : β} {off : Int} (tgt : Nat) (hf : (if x ≤ y then A else B) = some r) (hd : decode cc pc = .ok (.if_icmp .le off, 3)) (ht : (pc : Int) + off = (tgt : Int)) (kt : A = some r → ZW E tgt lv st M) (kf : B = some r → ZW E (pc + 3) lv st M) : ZW E pc lv (.int y :: .int x :: st) M := by
  obtain ⟨p, l, e, R, s, m, args, below, meth, c, cells, slots, Q, D, ad, cA, nL⟩ := E
  intro H locs ls hP hS hl
  exact lv_icmp_le hC.1 hC.2.1 hd ht (fun h => kt (by rw [if_pos h] at hf; exact hf) H locs ls hP hS hl) (fun h => kf (by rw [if_neg h] at hf; exact hf) H locs ls hP hS hl)
theorem zw_iret {E : ZEnv} {cc : ByteArray} {own : String} {d pc : Nat} {lv : List (Nat × Value)} {M : ZMem} {v : Int32} (hC : ZCx E cc own d) (hR : ZRet E (some .int) (some (.int v)) M) (hd : decode cc pc = .ok (.ireturn, 1)) : ZW E pc lv [.int v] M := by
  obtain ⟨p, l, e, R, s, m, args, below, meth, c, cells, slots, Q, D, ad, cA, nL⟩ := E
  obtain ⟨hr, hlk, rfl⟩ := hR
  intro H locs ls hP hS hl
  exact W.iret hC.1 hC.2.1 hr (fun t ht hW => ⟨rfl, by rw [ht]; exact hP, hS.F ht⟩) hS.2.2 hd hlk
theorem zw_zret {E : ZEnv} {cc : ByteArray} {own : String} {d pc : Nat} {lv : List (Nat × Value)} {M : ZMem} {v : Int32} {ty : FieldType} (hC : ZCx E cc own d) (hR : ZRet E (some ty) (some (.int v)) M) (hn : narrow ty (.int v) = .int v) (hd : decode cc pc = .ok (.ireturn, 1)) : ZW E pc lv [.int v] M := by
  obtain ⟨p, l, e, R, s, m, args, below, meth, c, cells, slots, Q, D, ad, cA, nL⟩ := E
  obtain ⟨hr, hlk, rfl⟩ := hR
  intro H locs ls hP hS hl
  exact W.zret hC.1 hC.2.1 hr hn (fun t ht hW => ⟨rfl, by rw [ht]; exact hP, hS.F ht⟩) hS.2.2 hd hlk
theorem zw_lret {E : ZEnv} {cc : ByteArray} {own : String} {d pc : Nat} {lv : List (Nat × Value)} {M : ZMem} {v : Int64} (hC : ZCx E cc own d) (hR : ZRet E (some .long) (some (.long v)) M) (hd : decode cc pc = .ok (.lreturn, 1)) : ZW E pc lv [.long v] M := by
  obtain ⟨p, l, e, R, s, m, args, below, meth, c, cells, slots, Q, D, ad, cA, nL⟩ := E
  obtain ⟨hr, hlk, rfl⟩ := hR
  intro H locs ls hP hS hl
  exact W.lret hC.1 hC.2.1 hr (fun t ht hW => ⟨rfl, by rw [ht]; exact hP, hS.F ht⟩) hS.2.2 hd hlk
theorem zw_vret {E : ZEnv} {cc : ByteArray} {own : String} {d pc : Nat} {lv : List (Nat × Value)} {M : ZMem} (hC : ZCx E cc own d) (hR : ZRet E none none M) (hd : decode cc pc = .ok (.return_, 1)) : ZW E pc lv [] M := by
  obtain ⟨p, l, e, R, s, m, args, below, meth, c, cells, slots, Q, D, ad, cA, nL⟩ := E
  obtain ⟨hr, hlk, rfl⟩ := hR
  intro H locs ls hP hS hl
  exact W.vret hC.1 hC.2.1 hr (fun t ht hW => ⟨rfl, by rw [ht]; exact hP, hS.F ht⟩) hS.2.2 hd hlk
theorem zw_aret {E : ZEnv} {cc : ByteArray} {own : String} {d pc : Nat} {lv : List (Nat × Value)} {M : ZMem} {v : Nat} {n : String} (hC : ZCx E cc own d) (hR : ZRet E (some (.object n)) (some (.ref v)) M) (hd : decode cc pc = .ok (.areturn, 1)) : ZW E pc lv [.ref v] M := by
  obtain ⟨p, l, e, R, s, m, args, below, meth, c, cells, slots, Q, D, ad, cA, nL⟩ := E
  obtain ⟨hr, hlk, rfl⟩ := hR
  intro H locs ls hP hS hl
  exact W.aret hC.1 hC.2.1 hr (Or.inl ⟨n, rfl⟩) (Or.inr ⟨v, rfl⟩) (fun t ht hW => ⟨rfl, by rw [ht]; exact hP, hS.F ht⟩) hS.2.2 hd hlk
