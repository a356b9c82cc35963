section AMO
variable {l : Launch} {ρ : am_R} {d : Nat} {M : am_M} {pc : Nat} {L : List (Nat × Value)} {S : List Value} {g E : am_G} {H : am_H} {Q : List Value → am_H → Prop}
theorem op_iconst {n : Int} {v : Int32} (hd : decode M.2.1 pc = .ok (.iconst n, 1)) (hv : Int32.ofInt n = v) (h : AW l ρ d M (pc + 1) L (.int v :: S) g H E Q) : AW l ρ d M pc L (S) g H E Q := by
  intro p e R s m args below meth c A QQ n0 k0 hC hE Hc locs ls hR hl h1 h2
  exact lv_iconst hC.1 hC.2.1 hd hv (h p e R s m args below meth c A QQ n0 k0 hC hE Hc locs ls hR hl h1 h2)
theorem op_bipush {n : Int} {v : Int32} (hd : decode M.2.1 pc = .ok (.bipush n, 2)) (hv : (Int8.ofInt n).toInt32 = v) (h : AW l ρ d M (pc + 2) L (.int v :: S) g H E Q) : AW l ρ d M pc L (S) g H E Q := by
  intro p e R s m args below meth c A QQ n0 k0 hC hE Hc locs ls hR hl h1 h2
  exact lv_bipush hC.1 hC.2.1 hd hv (h p e R s m args below meth c A QQ n0 k0 hC hE Hc locs ls hR hl h1 h2)
theorem op_sipush {n : Int} {v : Int32} (hd : decode M.2.1 pc = .ok (.sipush n, 3)) (hv : (Int16.ofInt n).toInt32 = v) (h : AW l ρ d M (pc + 3) L (.int v :: S) g H E Q) : AW l ρ d M pc L (S) g H E Q := by
  intro p e R s m args below meth c A QQ n0 k0 hC hE Hc locs ls hR hl h1 h2
  exact lv_sipush hC.1 hC.2.1 hd hv (h p e R s m args below meth c A QQ n0 k0 hC hE Hc locs ls hR hl h1 h2)
theorem op_lconst {n : Fin 2} {v : Int64} (hd : decode M.2.1 pc = .ok (.lconst n, 1)) (hv : Int64.ofNat (n : Nat) = v) (h : AW l ρ d M (pc + 1) L (.long v :: S) g H E Q) : AW l ρ d M pc L (S) g H E Q := by
  intro p e R s m args below meth c A QQ n0 k0 hC hE Hc locs ls hR hl h1 h2
  exact lv_lconst hC.1 hC.2.1 hd hv (h p e R s m args below meth c A QQ n0 k0 hC hE Hc locs ls hR hl h1 h2)
theorem op_iload_n {n : Fin 4} {k i : Nat} {x : Int32} (hd : decode M.2.1 pc = .ok (.iload_n n, 1)) (hi : (n : Nat) = i) (hk : L[k]? = some (i, .int x)) (h : AW l ρ d M (pc + 1) L (.int x :: S) g H E Q) : AW l ρ d M pc L S g H E Q := by
  intro p e R s m args below meth c A QQ n0 k0 hC hE Hc locs ls hR hl h1 h2
  exact lv_iload_n hC.1 hC.2.1 hd hi (am_at hl hk) (h p e R s m args below meth c A QQ n0 k0 hC hE Hc locs ls hR hl h1 h2)
theorem op_iload {k i : Nat} {x : Int32} (hd : decode M.2.1 pc = .ok (.iload i, 2)) (hk : L[k]? = some (i, .int x)) (h : AW l ρ d M (pc + 2) L (.int x :: S) g H E Q) : AW l ρ d M pc L S g H E Q := by
  intro p e R s m args below meth c A QQ n0 k0 hC hE Hc locs ls hR hl h1 h2
  exact lv_iload hC.1 hC.2.1 hd (am_at hl hk) (h p e R s m args below meth c A QQ n0 k0 hC hE Hc locs ls hR hl h1 h2)
theorem op_lload_n {n : Fin 4} {k i : Nat} {x : Int64} (hd : decode M.2.1 pc = .ok (.lload_n n, 1)) (hi : (n : Nat) = i) (hk : L[k]? = some (i, .long x)) (h : AW l ρ d M (pc + 1) L (.long x :: S) g H E Q) : AW l ρ d M pc L S g H E Q := by
  intro p e R s m args below meth c A QQ n0 k0 hC hE Hc locs ls hR hl h1 h2
  exact lv_lload_n hC.1 hC.2.1 hd hi (am_at hl hk) (h p e R s m args below meth c A QQ n0 k0 hC hE Hc locs ls hR hl h1 h2)
theorem op_lload {k i : Nat} {x : Int64} (hd : decode M.2.1 pc = .ok (.lload i, 2)) (hk : L[k]? = some (i, .long x)) (h : AW l ρ d M (pc + 2) L (.long x :: S) g H E Q) : AW l ρ d M pc L S g H E Q := by
  intro p e R s m args below meth c A QQ n0 k0 hC hE Hc locs ls hR hl h1 h2
  exact lv_lload hC.1 hC.2.1 hd (am_at hl hk) (h p e R s m args below meth c A QQ n0 k0 hC hE Hc locs ls hR hl h1 h2)
theorem op_aload_n {n : Fin 4} {k i : Nat} {x : Nat} (hd : decode M.2.1 pc = .ok (.aload_n n, 1)) (hi : (n : Nat) = i) (hk : L[k]? = some (i, .ref x)) (h : AW l ρ d M (pc + 1) L (.ref x :: S) g H E Q) : AW l ρ d M pc L S g H E Q := by
  intro p e R s m args below meth c A QQ n0 k0 hC hE Hc locs ls hR hl h1 h2
  exact lv_aload_n hC.1 hC.2.1 hd hi (am_at hl hk) (h p e R s m args below meth c A QQ n0 k0 hC hE Hc locs ls hR hl h1 h2)
theorem op_aload {k i : Nat} {x : Nat} (hd : decode M.2.1 pc = .ok (.aload i, 2)) (hk : L[k]? = some (i, .ref x)) (h : AW l ρ d M (pc + 2) L (.ref x :: S) g H E Q) : AW l ρ d M pc L S g H E Q := by
  intro p e R s m args below meth c A QQ n0 k0 hC hE Hc locs ls hR hl h1 h2
  exact lv_aload hC.1 hC.2.1 hd (am_at hl hk) (h p e R s m args below meth c A QQ n0 k0 hC hE Hc locs ls hR hl h1 h2)
theorem op_istore_n {n : Fin 4} {i : Nat} {x : Int32} {L' : List (Nat × Value)} (hd : decode M.2.1 pc = .ok (.istore_n n, 1)) (hi : (n : Nat) = i) (hn : i < M.2.2.1) (hL : am_st L i (.int x) = L') (h : AW l ρ d M (pc + 1) L' S g H E Q) : AW l ρ d M pc L (.int x :: S) g H E Q := by
  intro p e R s m args below meth c A QQ n0 k0 hC hE Hc locs ls hR hl h1 h2
  subst hL
  refine lv_istore_n hC.1 hC.2.1 hd hi hl hn rfl (fun ls' hl' => ?_)
  exact h p e R s m args below meth c A QQ n0 k0 hC hE Hc locs ls' hR (by rw [am_st_map]; exact hl') h1 h2
theorem op_istore {i : Nat} {x : Int32} {L' : List (Nat × Value)} (hd : decode M.2.1 pc = .ok (.istore i, 2)) (hn : i < M.2.2.1) (hL : am_st L i (.int x) = L') (h : AW l ρ d M (pc + 2) L' S g H E Q) : AW l ρ d M pc L (.int x :: S) g H E Q := by
  intro p e R s m args below meth c A QQ n0 k0 hC hE Hc locs ls hR hl h1 h2
  subst hL
  refine lv_istore hC.1 hC.2.1 hd hl hn rfl (fun ls' hl' => ?_)
  exact h p e R s m args below meth c A QQ n0 k0 hC hE Hc locs ls' hR (by rw [am_st_map]; exact hl') h1 h2
theorem op_lstore_n {n : Fin 4} {i : Nat} {x : Int64} {L' : List (Nat × Value)} (hd : decode M.2.1 pc = .ok (.lstore_n n, 1)) (hi : (n : Nat) = i) (hn : i + 1 < M.2.2.1) (hL : am_st2 L i (.long x) = L') (h : AW l ρ d M (pc + 1) L' S g H E Q) : AW l ρ d M pc L (.long x :: S) g H E Q := by
  intro p e R s m args below meth c A QQ n0 k0 hC hE Hc locs ls hR hl h1 h2
  subst hL
  refine lv_lstore_n hC.1 hC.2.1 hd hi hl hn rfl (fun ls' hl' => ?_)
  exact h p e R s m args below meth c A QQ n0 k0 hC hE Hc locs ls' hR (by rw [am_st2_map]; exact hl') h1 h2
theorem op_lstore {i : Nat} {x : Int64} {L' : List (Nat × Value)} (hd : decode M.2.1 pc = .ok (.lstore i, 2)) (hn : i + 1 < M.2.2.1) (hL : am_st2 L i (.long x) = L') (h : AW l ρ d M (pc + 2) L' S g H E Q) : AW l ρ d M pc L (.long x :: S) g H E Q := by
  intro p e R s m args below meth c A QQ n0 k0 hC hE Hc locs ls hR hl h1 h2
  subst hL
  refine lv_lstore hC.1 hC.2.1 hd hl hn rfl (fun ls' hl' => ?_)
  exact h p e R s m args below meth c A QQ n0 k0 hC hE Hc locs ls' hR (by rw [am_st2_map]; exact hl') h1 h2
theorem op_astore_n {n : Fin 4} {i : Nat} {x : Nat} {L' : List (Nat × Value)} (hd : decode M.2.1 pc = .ok (.astore_n n, 1)) (hi : (n : Nat) = i) (hn : i < M.2.2.1) (hL : am_st L i (.ref x) = L') (h : AW l ρ d M (pc + 1) L' S g H E Q) : AW l ρ d M pc L (.ref x :: S) g H E Q := by
  intro p e R s m args below meth c A QQ n0 k0 hC hE Hc locs ls hR hl h1 h2
  subst hL
  refine lv_astore_n hC.1 hC.2.1 hd hi hl hn rfl (fun ls' hl' => ?_)
  exact h p e R s m args below meth c A QQ n0 k0 hC hE Hc locs ls' hR (by rw [am_st_map]; exact hl') h1 h2
theorem op_astore {i : Nat} {x : Nat} {L' : List (Nat × Value)} (hd : decode M.2.1 pc = .ok (.astore i, 2)) (hn : i < M.2.2.1) (hL : am_st L i (.ref x) = L') (h : AW l ρ d M (pc + 2) L' S g H E Q) : AW l ρ d M pc L (.ref x :: S) g H E Q := by
  intro p e R s m args below meth c A QQ n0 k0 hC hE Hc locs ls hR hl h1 h2
  subst hL
  refine lv_astore hC.1 hC.2.1 hd hl hn rfl (fun ls' hl' => ?_)
  exact h p e R s m args below meth c A QQ n0 k0 hC hE Hc locs ls' hR (by rw [am_st_map]; exact hl') h1 h2
theorem op_iinc {i k : Nat} {n : Int} {x v : Int32} {L' : List (Nat × Value)} (hd : decode M.2.1 pc = .ok (.iinc i n, 3)) (hk : L[k]? = some (i, .int x)) (hv : x + Int32.ofInt n = v) (hn : i < M.2.2.1) (hL : am_st L i (.int v) = L') (h : AW l ρ d M (pc + 3) L' S g H E Q) : AW l ρ d M pc L S g H E Q := by
  intro p e R s m args below meth c A QQ n0 k0 hC hE Hc locs ls hR hl h1 h2
  subst hL
  refine lv_iinc (k := k) hC.1 hC.2.1 hd hl (by rw [List.getElem?_map, hk]; rfl) hv hn rfl (fun ls' hl' => ?_)
  exact h p e R s m args below meth c A QQ n0 k0 hC hE Hc locs ls' hR (by rw [am_st_map]; exact hl') h1 h2
theorem op_iadd {x y : Int32} (hd : decode M.2.1 pc = .ok (.iadd, 1))  (h : AW l ρ d M (pc + 1) L (.int (x + y) :: S) g H E Q) : AW l ρ d M pc L (.int y :: .int x :: S) g H E Q := by
  intro p e R s m args below meth c A QQ n0 k0 hC hE Hc locs ls hR hl h1 h2
  exact lv_iadd hC.1 hC.2.1 hd  (h p e R s m args below meth c A QQ n0 k0 hC hE Hc locs ls hR hl h1 h2)
theorem op_isub {x y : Int32} (hd : decode M.2.1 pc = .ok (.isub, 1))  (h : AW l ρ d M (pc + 1) L (.int (x - y) :: S) g H E Q) : AW l ρ d M pc L (.int y :: .int x :: S) g H E Q := by
  intro p e R s m args below meth c A QQ n0 k0 hC hE Hc locs ls hR hl h1 h2
  exact lv_isub hC.1 hC.2.1 hd  (h p e R s m args below meth c A QQ n0 k0 hC hE Hc locs ls hR hl h1 h2)
theorem op_imul {x y : Int32} (hd : decode M.2.1 pc = .ok (.imul, 1))  (h : AW l ρ d M (pc + 1) L (.int (x * y) :: S) g H E Q) : AW l ρ d M pc L (.int y :: .int x :: S) g H E Q := by
  intro p e R s m args below meth c A QQ n0 k0 hC hE Hc locs ls hR hl h1 h2
  exact lv_imul hC.1 hC.2.1 hd  (h p e R s m args below meth c A QQ n0 k0 hC hE Hc locs ls hR hl h1 h2)
theorem op_iand {x y : Int32} (hd : decode M.2.1 pc = .ok (.iand, 1))  (h : AW l ρ d M (pc + 1) L (.int (x &&& y) :: S) g H E Q) : AW l ρ d M pc L (.int y :: .int x :: S) g H E Q := by
  intro p e R s m args below meth c A QQ n0 k0 hC hE Hc locs ls hR hl h1 h2
  exact lv_iand hC.1 hC.2.1 hd  (h p e R s m args below meth c A QQ n0 k0 hC hE Hc locs ls hR hl h1 h2)
theorem op_ior {x y : Int32} (hd : decode M.2.1 pc = .ok (.ior, 1))  (h : AW l ρ d M (pc + 1) L (.int (x ||| y) :: S) g H E Q) : AW l ρ d M pc L (.int y :: .int x :: S) g H E Q := by
  intro p e R s m args below meth c A QQ n0 k0 hC hE Hc locs ls hR hl h1 h2
  exact lv_ior hC.1 hC.2.1 hd  (h p e R s m args below meth c A QQ n0 k0 hC hE Hc locs ls hR hl h1 h2)
theorem op_ixor {x y : Int32} (hd : decode M.2.1 pc = .ok (.ixor, 1))  (h : AW l ρ d M (pc + 1) L (.int (x ^^^ y) :: S) g H E Q) : AW l ρ d M pc L (.int y :: .int x :: S) g H E Q := by
  intro p e R s m args below meth c A QQ n0 k0 hC hE Hc locs ls hR hl h1 h2
  exact lv_ixor hC.1 hC.2.1 hd  (h p e R s m args below meth c A QQ n0 k0 hC hE Hc locs ls hR hl h1 h2)
theorem op_ladd {x y : Int64} (hd : decode M.2.1 pc = .ok (.ladd, 1))  (h : AW l ρ d M (pc + 1) L (.long (x + y) :: S) g H E Q) : AW l ρ d M pc L (.long y :: .long x :: S) g H E Q := by
  intro p e R s m args below meth c A QQ n0 k0 hC hE Hc locs ls hR hl h1 h2
  exact lv_ladd hC.1 hC.2.1 hd  (h p e R s m args below meth c A QQ n0 k0 hC hE Hc locs ls hR hl h1 h2)
theorem op_lsub {x y : Int64} (hd : decode M.2.1 pc = .ok (.lsub, 1))  (h : AW l ρ d M (pc + 1) L (.long (x - y) :: S) g H E Q) : AW l ρ d M pc L (.long y :: .long x :: S) g H E Q := by
  intro p e R s m args below meth c A QQ n0 k0 hC hE Hc locs ls hR hl h1 h2
  exact lv_lsub hC.1 hC.2.1 hd  (h p e R s m args below meth c A QQ n0 k0 hC hE Hc locs ls hR hl h1 h2)
theorem op_lmul {x y : Int64} (hd : decode M.2.1 pc = .ok (.lmul, 1))  (h : AW l ρ d M (pc + 1) L (.long (x * y) :: S) g H E Q) : AW l ρ d M pc L (.long y :: .long x :: S) g H E Q := by
  intro p e R s m args below meth c A QQ n0 k0 hC hE Hc locs ls hR hl h1 h2
  exact lv_lmul hC.1 hC.2.1 hd  (h p e R s m args below meth c A QQ n0 k0 hC hE Hc locs ls hR hl h1 h2)
theorem op_land {x y : Int64} (hd : decode M.2.1 pc = .ok (.land, 1))  (h : AW l ρ d M (pc + 1) L (.long (x &&& y) :: S) g H E Q) : AW l ρ d M pc L (.long y :: .long x :: S) g H E Q := by
  intro p e R s m args below meth c A QQ n0 k0 hC hE Hc locs ls hR hl h1 h2
  exact lv_land hC.1 hC.2.1 hd  (h p e R s m args below meth c A QQ n0 k0 hC hE Hc locs ls hR hl h1 h2)
theorem op_lor {x y : Int64} (hd : decode M.2.1 pc = .ok (.lor, 1))  (h : AW l ρ d M (pc + 1) L (.long (x ||| y) :: S) g H E Q) : AW l ρ d M pc L (.long y :: .long x :: S) g H E Q := by
  intro p e R s m args below meth c A QQ n0 k0 hC hE Hc locs ls hR hl h1 h2
  exact lv_lor hC.1 hC.2.1 hd  (h p e R s m args below meth c A QQ n0 k0 hC hE Hc locs ls hR hl h1 h2)
theorem op_idiv {x y : Int32} (hd : decode M.2.1 pc = .ok (.idiv, 1)) (hne : ¬ y = 0) (h : AW l ρ d M (pc + 1) L (.int (x / y) :: S) g H E Q) : AW l ρ d M pc L (.int y :: .int x :: S) g H E Q := by
  intro p e R s m args below meth c A QQ n0 k0 hC hE Hc locs ls hR hl h1 h2
  exact lv_idiv hC.1 hC.2.1 hd hne (h p e R s m args below meth c A QQ n0 k0 hC hE Hc locs ls hR hl h1 h2)
theorem op_irem {x y : Int32} (hd : decode M.2.1 pc = .ok (.irem, 1)) (hne : ¬ y = 0) (h : AW l ρ d M (pc + 1) L (.int (x - x / y * y) :: S) g H E Q) : AW l ρ d M pc L (.int y :: .int x :: S) g H E Q := by
  intro p e R s m args below meth c A QQ n0 k0 hC hE Hc locs ls hR hl h1 h2
  exact lv_irem hC.1 hC.2.1 hd hne (h p e R s m args below meth c A QQ n0 k0 hC hE Hc locs ls hR hl h1 h2)
theorem op_ldiv {x y : Int64} (hd : decode M.2.1 pc = .ok (.ldiv, 1)) (hne : ¬ y = 0) (h : AW l ρ d M (pc + 1) L (.long (x / y) :: S) g H E Q) : AW l ρ d M pc L (.long y :: .long x :: S) g H E Q := by
  intro p e R s m args below meth c A QQ n0 k0 hC hE Hc locs ls hR hl h1 h2
  exact lv_ldiv hC.1 hC.2.1 hd hne (h p e R s m args below meth c A QQ n0 k0 hC hE Hc locs ls hR hl h1 h2)
theorem op_lrem {x y : Int64} (hd : decode M.2.1 pc = .ok (.lrem, 1)) (hne : ¬ y = 0) (h : AW l ρ d M (pc + 1) L (.long (x - x / y * y) :: S) g H E Q) : AW l ρ d M pc L (.long y :: .long x :: S) g H E Q := by
  intro p e R s m args below meth c A QQ n0 k0 hC hE Hc locs ls hR hl h1 h2
  exact lv_lrem hC.1 hC.2.1 hd hne (h p e R s m args below meth c A QQ n0 k0 hC hE Hc locs ls hR hl h1 h2)
theorem op_ishl {x y : Int32} (hd : decode M.2.1 pc = .ok (.ishl, 1))  (h : AW l ρ d M (pc + 1) L (.int (x <<< (y &&& 31)) :: S) g H E Q) : AW l ρ d M pc L (.int y :: .int x :: S) g H E Q := by
  intro p e R s m args below meth c A QQ n0 k0 hC hE Hc locs ls hR hl h1 h2
  exact lv_ishl hC.1 hC.2.1 hd  (h p e R s m args below meth c A QQ n0 k0 hC hE Hc locs ls hR hl h1 h2)
theorem op_ishr {x y : Int32} (hd : decode M.2.1 pc = .ok (.ishr, 1))  (h : AW l ρ d M (pc + 1) L (.int (x >>> (y &&& 31)) :: S) g H E Q) : AW l ρ d M pc L (.int y :: .int x :: S) g H E Q := by
  intro p e R s m args below meth c A QQ n0 k0 hC hE Hc locs ls hR hl h1 h2
  exact lv_ishr hC.1 hC.2.1 hd  (h p e R s m args below meth c A QQ n0 k0 hC hE Hc locs ls hR hl h1 h2)
theorem op_iushr {x y v : Int32} (hd : decode M.2.1 pc = .ok (.iushr, 1)) (hv : (x.toUInt32 >>> (y.toUInt32 &&& Int32.toUInt32 31)).toInt32 = v) (h : AW l ρ d M (pc + 1) L (.int v :: S) g H E Q) : AW l ρ d M pc L (.int y :: .int x :: S) g H E Q := by
  intro p e R s m args below meth c A QQ n0 k0 hC hE Hc locs ls hR hl h1 h2
  exact lv_iushr hC.1 hC.2.1 hd hv (h p e R s m args below meth c A QQ n0 k0 hC hE Hc locs ls hR hl h1 h2)
theorem op_lushr {x v : Int64} {y : Int32} (hd : decode M.2.1 pc = .ok (.lushr, 1)) (hv : (x.toUInt64 >>> (y.toInt64.toUInt64 &&& Int64.toUInt64 63)).toInt64 = v) (h : AW l ρ d M (pc + 1) L (.long v :: S) g H E Q) : AW l ρ d M pc L (.int y :: .long x :: S) g H E Q := by
  intro p e R s m args below meth c A QQ n0 k0 hC hE Hc locs ls hR hl h1 h2
  exact lv_lushr hC.1 hC.2.1 hd hv (h p e R s m args below meth c A QQ n0 k0 hC hE Hc locs ls hR hl h1 h2)
theorem op_lshl {x v : Int64} {y : Int32} (hd : decode M.2.1 pc = .ok (.lshl, 1)) (hv : x <<< (y.toInt64 &&& 63) = v) (h : AW l ρ d M (pc + 1) L (.long v :: S) g H E Q) : AW l ρ d M pc L (.int y :: .long x :: S) g H E Q := by
  intro p e R s m args below meth c A QQ n0 k0 hC hE Hc locs ls hR hl h1 h2
  exact lv_lshl hC.1 hC.2.1 hd hv (h p e R s m args below meth c A QQ n0 k0 hC hE Hc locs ls hR hl h1 h2)
theorem op_ineg {x : Int32} (hd : decode M.2.1 pc = .ok (.ineg, 1))  (h : AW l ρ d M (pc + 1) L (.int (-x) :: S) g H E Q) : AW l ρ d M pc L (.int x :: S) g H E Q := by
  intro p e R s m args below meth c A QQ n0 k0 hC hE Hc locs ls hR hl h1 h2
  exact lv_ineg hC.1 hC.2.1 hd  (h p e R s m args below meth c A QQ n0 k0 hC hE Hc locs ls hR hl h1 h2)
theorem op_i2l {x : Int32} (hd : decode M.2.1 pc = .ok (.i2l, 1))  (h : AW l ρ d M (pc + 1) L (.long x.toInt64 :: S) g H E Q) : AW l ρ d M pc L (.int x :: S) g H E Q := by
  intro p e R s m args below meth c A QQ n0 k0 hC hE Hc locs ls hR hl h1 h2
  exact lv_i2l hC.1 hC.2.1 hd rfl (h p e R s m args below meth c A QQ n0 k0 hC hE Hc locs ls hR hl h1 h2)
theorem op_l2i {x : Int64} (hd : decode M.2.1 pc = .ok (.l2i, 1))  (h : AW l ρ d M (pc + 1) L (.int x.toInt32 :: S) g H E Q) : AW l ρ d M pc L (.long x :: S) g H E Q := by
  intro p e R s m args below meth c A QQ n0 k0 hC hE Hc locs ls hR hl h1 h2
  exact lv_l2i hC.1 hC.2.1 hd rfl (h p e R s m args below meth c A QQ n0 k0 hC hE Hc locs ls hR hl h1 h2)
theorem op_i2b {x : Int32} (hd : decode M.2.1 pc = .ok (.i2b, 1))  (h : AW l ρ d M (pc + 1) L (.int x.toInt8.toInt32 :: S) g H E Q) : AW l ρ d M pc L (.int x :: S) g H E Q := by
  intro p e R s m args below meth c A QQ n0 k0 hC hE Hc locs ls hR hl h1 h2
  exact lv_i2b hC.1 hC.2.1 hd rfl (h p e R s m args below meth c A QQ n0 k0 hC hE Hc locs ls hR hl h1 h2)
theorem op_lcmp {x y : Int64} (hd : decode M.2.1 pc = .ok (.lcmp, 1))  (h : AW l ρ d M (pc + 1) L (.int (lg_cmp x y) :: S) g H E Q) : AW l ρ d M pc L (.long y :: .long x :: S) g H E Q := by
  intro p e R s m args below meth c A QQ n0 k0 hC hE Hc locs ls hR hl h1 h2
  exact W.lcmp hC.1 hC.2.1 hd  (h p e R s m args below meth c A QQ n0 k0 hC hE Hc locs ls hR hl h1 h2)
theorem op_dup {v : Value} (hd : decode M.2.1 pc = .ok (.dup, 1)) (hv : v.category = 1) (h : AW l ρ d M (pc + 1) L (v :: v :: S) g H E Q) : AW l ρ d M pc L (v :: S) g H E Q := by
  intro p e R s m args below meth c A QQ n0 k0 hC hE Hc locs ls hR hl h1 h2
  exact lv_dup hC.1 hC.2.1 hd (by rw [am_cat]; exact hv) (h p e R s m args below meth c A QQ n0 k0 hC hE Hc locs ls hR hl h1 h2)
theorem op_pop {v : Value} (hd : decode M.2.1 pc = .ok (.pop, 1)) (hv : v.category = 1) (h : AW l ρ d M (pc + 1) L (S) g H E Q) : AW l ρ d M pc L (v :: S) g H E Q := by
  intro p e R s m args below meth c A QQ n0 k0 hC hE Hc locs ls hR hl h1 h2
  exact lv_pop hC.1 hC.2.1 hd (by rw [am_cat]; exact hv) (h p e R s m args below meth c A QQ n0 k0 hC hE Hc locs ls hR hl h1 h2)
theorem op_dup2 {v w : Value} (hd : decode M.2.1 pc = .ok (.dup2, 1)) (hv : v.category = 1) (hw : w.category = 1) (h : AW l ρ d M (pc + 1) L (v :: w :: v :: w :: S) g H E Q) : AW l ρ d M pc L (v :: w :: S) g H E Q := by
  intro p e R s m args below meth c A QQ n0 k0 hC hE Hc locs ls hR hl h1 h2
  exact lv_dup2_11 hC.1 hC.2.1 hd (by rw [am_cat]; exact hv) (by rw [am_cat]; exact hw) (h p e R s m args below meth c A QQ n0 k0 hC hE Hc locs ls hR hl h1 h2)
theorem op_dup_x1 {v w : Value} (hd : decode M.2.1 pc = .ok (.dup_x1, 1)) (hv : v.category = 1) (hw : w.category = 1) (h : AW l ρ d M (pc + 1) L (v :: w :: v :: S) g H E Q) : AW l ρ d M pc L (v :: w :: S) g H E Q := by
  intro p e R s m args below meth c A QQ n0 k0 hC hE Hc locs ls hR hl h1 h2
  exact lv_dup_x1 hC.1 hC.2.1 hd (by rw [am_cat]; exact hv) (by rw [am_cat]; exact hw) (h p e R s m args below meth c A QQ n0 k0 hC hE Hc locs ls hR hl h1 h2)
theorem op_icmp_eq {x y : Int32} {off : Int} {tgt : Nat} (hd : decode M.2.1 pc = .ok (.if_icmp .eq off, 3)) (ht : (pc : Int) + off = (tgt : Int)) (kt : x = y → AW l ρ d M tgt L S g H E Q) (kf : ¬ x = y → AW l ρ d M (pc + 3) L S g H E Q) : AW l ρ d M pc L (.int y :: .int x :: S) g H E Q := by
  intro p e R s m args below meth c A QQ n0 k0 hC hE Hc locs ls hR hl h1 h2
  exact lv_icmp_eq hC.1 hC.2.1 hd ht (fun z => kt z p e R s m args below meth c A QQ n0 k0 hC hE Hc locs ls hR hl h1 h2) (fun z => kf z p e R s m args below meth c A QQ n0 k0 hC hE Hc locs ls hR hl h1 h2)
theorem op_if_eq {x : Int32} {off : Int} {tgt : Nat} (hd : decode M.2.1 pc = .ok (.ifCond .eq off, 3)) (ht : (pc : Int) + off = (tgt : Int)) (kt : x = 0 → AW l ρ d M tgt L S g H E Q) (kf : ¬ x = 0 → AW l ρ d M (pc + 3) L S g H E Q) : AW l ρ d M pc L (.int x :: S) g H E Q := by
  intro p e R s m args below meth c A QQ n0 k0 hC hE Hc locs ls hR hl h1 h2
  exact lv_if_eq hC.1 hC.2.1 hd ht (fun z => kt z p e R s m args below meth c A QQ n0 k0 hC hE Hc locs ls hR hl h1 h2) (fun z => kf z p e R s m args below meth c A QQ n0 k0 hC hE Hc locs ls hR hl h1 h2)
theorem op_icmp_ne {x y : Int32} {off : Int} {tgt : Nat} (hd : decode M.2.1 pc = .ok (.if_icmp .ne off, 3)) (ht : (pc : Int) + off = (tgt : Int)) (kt : ¬ x = y → AW l ρ d M tgt L S g H E Q) (kf : x = y → AW l ρ d M (pc + 3) L S g H E Q) : AW l ρ d M pc L (.int y :: .int x :: S) g H E Q := by
  intro p e R s m args below meth c A QQ n0 k0 hC hE Hc locs ls hR hl h1 h2
  exact lv_icmp_ne hC.1 hC.2.1 hd ht (fun z => kt z p e R s m args below meth c A QQ n0 k0 hC hE Hc locs ls hR hl h1 h2) (fun z => kf z p e R s m args below meth c A QQ n0 k0 hC hE Hc locs ls hR hl h1 h2)
theorem op_if_ne {x : Int32} {off : Int} {tgt : Nat} (hd : decode M.2.1 pc = .ok (.ifCond .ne off, 3)) (ht : (pc : Int) + off = (tgt : Int)) (kt : ¬ x = 0 → AW l ρ d M tgt L S g H E Q) (kf : x = 0 → AW l ρ d M (pc + 3) L S g H E Q) : AW l ρ d M pc L (.int x :: S) g H E Q := by
  intro p e R s m args below meth c A QQ n0 k0 hC hE Hc locs ls hR hl h1 h2
  exact lv_if_ne hC.1 hC.2.1 hd ht (fun z => kt z p e R s m args below meth c A QQ n0 k0 hC hE Hc locs ls hR hl h1 h2) (fun z => kf z p e R s m args below meth c A QQ n0 k0 hC hE Hc locs ls hR hl h1 h2)
theorem op_icmp_lt {x y : Int32} {off : Int} {tgt : Nat} (hd : decode M.2.1 pc = .ok (.if_icmp .lt off, 3)) (ht : (pc : Int) + off = (tgt : Int)) (kt : x < y → AW l ρ d M tgt L S g H E Q) (kf : ¬ x < y → AW l ρ d M (pc + 3) L S g H E Q) : AW l ρ d M pc L (.int y :: .int x :: S) g H E Q := by
  intro p e R s m args below meth c A QQ n0 k0 hC hE Hc locs ls hR hl h1 h2
  exact lv_icmp_lt hC.1 hC.2.1 hd ht (fun z => kt z p e R s m args below meth c A QQ n0 k0 hC hE Hc locs ls hR hl h1 h2) (fun z => kf z p e R s m args below meth c A QQ n0 k0 hC hE Hc locs ls hR hl h1 h2)
theorem op_if_lt {x : Int32} {off : Int} {tgt : Nat} (hd : decode M.2.1 pc = .ok (.ifCond .lt off, 3)) (ht : (pc : Int) + off = (tgt : Int)) (kt : x < 0 → AW l ρ d M tgt L S g H E Q) (kf : ¬ x < 0 → AW l ρ d M (pc + 3) L S g H E Q) : AW l ρ d M pc L (.int x :: S) g H E Q := by
  intro p e R s m args below meth c A QQ n0 k0 hC hE Hc locs ls hR hl h1 h2
  exact lv_if_lt hC.1 hC.2.1 hd ht (fun z => kt z p e R s m args below meth c A QQ n0 k0 hC hE Hc locs ls hR hl h1 h2) (fun z => kf z p e R s m args below meth c A QQ n0 k0 hC hE Hc locs ls hR hl h1 h2)
theorem op_icmp_ge {x y : Int32} {off : Int} {tgt : Nat} (hd : decode M.2.1 pc = .ok (.if_icmp .ge off, 3)) (ht : (pc : Int) + off = (tgt : Int)) (kt : y ≤ x → AW l ρ d M tgt L S g H E Q) (kf : ¬ y ≤ x → AW l ρ d M (pc + 3) L S g H E Q) : AW l ρ d M pc L (.int y :: .int x :: S) g H E Q := by
  intro p e R s m args below meth c A QQ n0 k0 hC hE Hc locs ls hR hl h1 h2
  exact lv_icmp_ge hC.1 hC.2.1 hd ht (fun z => kt z p e R s m args below meth c A QQ n0 k0 hC hE Hc locs ls hR hl h1 h2) (fun z => kf z p e R s m args below meth c A QQ n0 k0 hC hE Hc locs ls hR hl h1 h2)
theorem op_if_ge {x : Int32} {off : Int} {tgt : Nat} (hd : decode M.2.1 pc = .ok (.ifCond .ge off, 3)) (ht : (pc : Int) + off = (tgt : Int)) (kt : 0 ≤ x → AW l ρ d M tgt L S g H E Q) (kf : ¬ 0 ≤ x → AW l ρ d M (pc + 3) L S g H E Q) : AW l ρ d M pc L (.int x :: S) g H E Q := by
  intro p e R s m args below meth c A QQ n0 k0 hC hE Hc locs ls hR hl h1 h2
  exact lv_if_ge hC.1 hC.2.1 hd ht (fun z => kt z p e R s m args below meth c A QQ n0 k0 hC hE Hc locs ls hR hl h1 h2) (fun z => kf z p e R s m args below meth c A QQ n0 k0 hC hE Hc locs ls hR hl h1 h2)
theorem op_icmp_gt {x y : Int32} {off : Int} {tgt : Nat} (hd : decode M.2.1 pc = .ok (.if_icmp .gt off, 3)) (ht : (pc : Int) + off = (tgt : Int)) (kt : y < x → AW l ρ d M tgt L S g H E Q) (kf : ¬ y < x → AW l ρ d M (pc + 3) L S g H E Q) : AW l ρ d M pc L (.int y :: .int x :: S) g H E Q := by
  intro p e R s m args below meth c A QQ n0 k0 hC hE Hc locs ls hR hl h1 h2
  exact lv_icmp_gt hC.1 hC.2.1 hd ht (fun z => kt z p e R s m args below meth c A QQ n0 k0 hC hE Hc locs ls hR hl h1 h2) (fun z => kf z p e R s m args below meth c A QQ n0 k0 hC hE Hc locs ls hR hl h1 h2)
theorem op_if_gt {x : Int32} {off : Int} {tgt : Nat} (hd : decode M.2.1 pc = .ok (.ifCond .gt off, 3)) (ht : (pc : Int) + off = (tgt : Int)) (kt : 0 < x → AW l ρ d M tgt L S g H E Q) (kf : ¬ 0 < x → AW l ρ d M (pc + 3) L S g H E Q) : AW l ρ d M pc L (.int x :: S) g H E Q := by
  intro p e R s m args below meth c A QQ n0 k0 hC hE Hc locs ls hR hl h1 h2
  exact lv_if_gt hC.1 hC.2.1 hd ht (fun z => kt z p e R s m args below meth c A QQ n0 k0 hC hE Hc locs ls hR hl h1 h2) (fun z => kf z p e R s m args below meth c A QQ n0 k0 hC hE Hc locs ls hR hl h1 h2)
theorem op_icmp_le {x y : Int32} {off : Int} {tgt : Nat} (hd : decode M.2.1 pc = .ok (.if_icmp .le off, 3)) (ht : (pc : Int) + off = (tgt : Int)) (kt : x ≤ y → AW l ρ d M tgt L S g H E Q) (kf : ¬ x ≤ y → AW l ρ d M (pc + 3) L S g H E Q) : AW l ρ d M pc L (.int y :: .int x :: S) g H E Q := by
  intro p e R s m args below meth c A QQ n0 k0 hC hE Hc locs ls hR hl h1 h2
  exact lv_icmp_le hC.1 hC.2.1 hd ht (fun z => kt z p e R s m args below meth c A QQ n0 k0 hC hE Hc locs ls hR hl h1 h2) (fun z => kf z p e R s m args below meth c A QQ n0 k0 hC hE Hc locs ls hR hl h1 h2)
theorem op_if_le {x : Int32} {off : Int} {tgt : Nat} (hd : decode M.2.1 pc = .ok (.ifCond .le off, 3)) (ht : (pc : Int) + off = (tgt : Int)) (kt : x ≤ 0 → AW l ρ d M tgt L S g H E Q) (kf : ¬ x ≤ 0 → AW l ρ d M (pc + 3) L S g H E Q) : AW l ρ d M pc L (.int x :: S) g H E Q := by
  intro p e R s m args below meth c A QQ n0 k0 hC hE Hc locs ls hR hl h1 h2
  exact lv_if_le hC.1 hC.2.1 hd ht (fun z => kt z p e R s m args below meth c A QQ n0 k0 hC hE Hc locs ls hR hl h1 h2) (fun z => kf z p e R s m args below meth c A QQ n0 k0 hC hE Hc locs ls hR hl h1 h2)
theorem op_goto {off : Int} {tgt : Nat} (hd : decode M.2.1 pc = .ok (.goto off, 3)) (ht : (pc : Int) + off = (tgt : Int)) (h : AW l ρ d M tgt L S g H E Q) : AW l ρ d M pc L S g H E Q := by
  intro p e R s m args below meth c A QQ n0 k0 hC hE Hc locs ls hR hl h1 h2
  exact lv_goto hC.1 hC.2.1 hd ht (h p e R s m args below meth c A QQ n0 k0 hC hE Hc locs ls hR hl h1 h2)
theorem op_lookup {dflt : Int} {ps : Array (Int × Int)} {len : Nat} {x : Int32} {off : Int} {tgt : Nat} (hd : decode M.2.1 pc = .ok (.lookupswitch dflt ps, len)) (hp : (ps.toList.zip (ps.toList.drop 1)).all (fun (a, next) => a.1 < next.1) = true) (ho : Op.lookupswitch.offset ps.toList dflt x.toInt = off) (ht : (pc : Int) + off = (tgt : Int)) (h : AW l ρ d M tgt L S g H E Q) : AW l ρ d M pc L (.int x :: S) g H E Q := by
  intro p e R s m args below meth c A QQ n0 k0 hC hE Hc locs ls hR hl h1 h2
  exact lv_lookup hC.1 hC.2.1 hd hp ho ht (h p e R s m args below meth c A QQ n0 k0 hC hE Hc locs ls hR hl h1 h2)
theorem op_tableOut {dflt lo hi : Int} {offs : Array Int} {len : Nat} {x : Int32} {tgt : Nat} (hd : decode M.2.1 pc = .ok (.tableswitch dflt lo hi offs, len)) (hx : x.toInt < lo ∨ hi < x.toInt) (ht : (pc : Int) + dflt = (tgt : Int)) (h : AW l ρ d M tgt L S g H E Q) : AW l ρ d M pc L (.int x :: S) g H E Q := by
  intro p e R s m args below meth c A QQ n0 k0 hC hE Hc locs ls hR hl h1 h2
  exact lv_tableOut hC.1 hC.2.1 hd hx ht (h p e R s m args below meth c A QQ n0 k0 hC hE Hc locs ls hR hl h1 h2)
theorem op_tableIn {dflt lo hi : Int} {offs : Array Int} {len : Nat} {x : Int32} {off : Int} {tgt : Nat} (hd : decode M.2.1 pc = .ok (.tableswitch dflt lo hi offs, len)) (hx1 : ¬ x.toInt < lo) (hx2 : ¬ hi < x.toInt) (ho : offs[(x.toInt - lo).toNat]? = some off) (ht : (pc : Int) + off = (tgt : Int)) (h : AW l ρ d M tgt L S g H E Q) : AW l ρ d M pc L (.int x :: S) g H E Q := by
  intro p e R s m args below meth c A QQ n0 k0 hC hE Hc locs ls hR hl h1 h2
  exact lv_tableIn hC.1 hC.2.1 hd hx1 hx2 ho ht (h p e R s m args below meth c A QQ n0 k0 hC hE Hc locs ls hR hl h1 h2)
theorem op_ldc {idx : Nat} {v : Int32} (hd : decode M.2.1 pc = .ok (.ldc idx, 2)) (hw : Cond.constant M.1.cls idx v ∈ am_T) (h : AW l ρ d M (pc + 2) L (.int v :: S) g H E Q) : AW l ρ d M pc L S g H E Q := by
  intro p e R s m args below meth c A QQ n0 k0 hC hE Hc locs ls hR hl h1 h2
  exact lv_ldc hC.1 hC.2.1 hC.2.2.2.1 (hC.2.2.2.2.1 _ hw) hd (h p e R s m args below meth c A QQ n0 k0 hC hE Hc locs ls hR hl h1 h2)
theorem op_ldcw {idx : Nat} {v : Int32} (hd : decode M.2.1 pc = .ok (.ldc_w idx, 3)) (hw : Cond.constant M.1.cls idx v ∈ am_T) (h : AW l ρ d M (pc + 3) L (.int v :: S) g H E Q) : AW l ρ d M pc L S g H E Q := by
  intro p e R s m args below meth c A QQ n0 k0 hC hE Hc locs ls hR hl h1 h2
  exact lv_ldcw hC.1 hC.2.1 hC.2.2.2.1 (hC.2.2.2.2.1 _ hw) hd (h p e R s m args below meth c A QQ n0 k0 hC hE Hc locs ls hR hl h1 h2)
theorem op_ldc2 {idx : Nat} {v : Int64} (hd : decode M.2.1 pc = .ok (.ldc2_w idx, 3)) (hw : Cond.constantLong M.1.cls idx v ∈ am_T) (h : AW l ρ d M (pc + 3) L (.long v :: S) g H E Q) : AW l ρ d M pc L S g H E Q := by
  intro p e R s m args below meth c A QQ n0 k0 hC hE Hc locs ls hR hl h1 h2
  exact lv_ldc2 hC.1 hC.2.1 hC.2.2.2.1 (hC.2.2.2.2.1 _ hw) hd (h p e R s m args below meth c A QQ n0 k0 hC hE Hc locs ls hR hl h1 h2)
theorem op_vret (hd : decode M.2.1 pc = .ok (.return_, 1)) (hr : M.2.2.2 = none) (hq : Q [] H) : AW l ρ d M pc L [] g H g Q := by
  intro p e R s m args below meth c A QQ n0 k0 hC hE Hc locs ls hR hl h1 h2
  exact hE Hc locs ls pc [] H (Or.inl ⟨hd, hr⟩) ⟨hq, hl.1⟩ hR
theorem op_iret {x : Int32} (hd : decode M.2.1 pc = .ok (.ireturn, 1)) {ty : FieldType} (hr : M.2.2.2 = some ty) (hn : narrow ty (.int x) = .int x) (hq : Q [.int x] H) : AW l ρ d M pc L [.int x] g H g Q := by
  intro p e R s m args below meth c A QQ n0 k0 hC hE Hc locs ls hR hl h1 h2
  exact hE Hc locs ls pc [.int x] H ⟨hd, _, hr, hn⟩ ⟨hq, hl.1⟩ hR
theorem op_lret {x : Int64} (hd : decode M.2.1 pc = .ok (.lreturn, 1)) (hr : M.2.2.2 = some .long) (hq : Q [.long x] H) : AW l ρ d M pc L [.long x] g H g Q := by
  intro p e R s m args below meth c A QQ n0 k0 hC hE Hc locs ls hR hl h1 h2
  exact hE Hc locs ls pc [.long x] H ⟨hd, hr⟩ ⟨hq, hl.1⟩ hR
end AMO
