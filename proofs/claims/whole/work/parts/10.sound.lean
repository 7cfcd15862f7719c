section SND
variable {Γ : GG} {mi pc : Nat} {lv : LV} {r : List MV} {σ : Mem} {cnt : Nat × Nat} {Q : Out → Mem → Prop}
theorem so_iconst {a : Int} (hd : decode (mCode mi) pc = .ok (.iconst a, 1)) (h : Go Γ mi (pc + 1) lv (.inl (.int (Int32.ofInt a)) :: r) σ cnt Q) : Go Γ mi pc lv (r) σ cnt Q := by
  intro n0 p e s m args below meth c H locs ls hn M hl hW hS hlv hst h1
  exact lv_iconst M.1 M.2.1 hd rfl (h n0 p e s m args below meth c H locs ls hn M hl hW hS hlv (okS_cons okV_int (hst)) h1)
theorem so_bipush {a : Int} (he : (Int8.ofInt a).toInt32 = Int32.ofInt a) (hd : decode (mCode mi) pc = .ok (.bipush a, 2)) (h : Go Γ mi (pc + 2) lv (.inl (.int (Int32.ofInt a)) :: r) σ cnt Q) : Go Γ mi pc lv (r) σ cnt Q := by
  intro n0 p e s m args below meth c H locs ls hn M hl hW hS hlv hst h1
  exact lv_bipush M.1 M.2.1 hd he (h n0 p e s m args below meth c H locs ls hn M hl hW hS hlv (okS_cons okV_int (hst)) h1)
theorem so_sipush {a : Int} (he : (Int16.ofInt a).toInt32 = Int32.ofInt a) (hd : decode (mCode mi) pc = .ok (.sipush a, 3)) (h : Go Γ mi (pc + 3) lv (.inl (.int (Int32.ofInt a)) :: r) σ cnt Q) : Go Γ mi pc lv (r) σ cnt Q := by
  intro n0 p e s m args below meth c H locs ls hn M hl hW hS hlv hst h1
  exact lv_sipush M.1 M.2.1 hd he (h n0 p e s m args below meth c H locs ls hn M hl hW hS hlv (okS_cons okV_int (hst)) h1)
theorem so_lconst {a : Fin 2} (hd : decode (mCode mi) pc = .ok (.lconst a, 1)) (h : Go Γ mi (pc + 1) lv (.inl (.long (Int64.ofInt (a : Nat))) :: r) σ cnt Q) : Go Γ mi pc lv (r) σ cnt Q := by
  intro n0 p e s m args below meth c H locs ls hn M hl hW hS hlv hst h1
  exact lv_lconst M.1 M.2.1 hd rfl (h n0 p e s m args below meth c H locs ls hn M hl hW hS hlv (okS_cons okV_long (hst)) h1)
theorem so_iadd {x y : Int32} (hd : decode (mCode mi) pc = .ok (.iadd, 1)) (h : Go Γ mi (pc + 1) lv (.inl (.int (x + y)) :: r) σ cnt Q) : Go Γ mi pc lv (.inl (.int (y)) :: .inl (.int (x)) :: r) σ cnt Q := by
  intro n0 p e s m args below meth c H locs ls hn M hl hW hS hlv hst h1
  exact lv_iadd M.1 M.2.1 hd (h n0 p e s m args below meth c H locs ls hn M hl hW hS hlv (okS_cons okV_int (okS_tl (okS_tl hst))) h1)
theorem so_isub {x y : Int32} (hd : decode (mCode mi) pc = .ok (.isub, 1)) (h : Go Γ mi (pc + 1) lv (.inl (.int (x - y)) :: r) σ cnt Q) : Go Γ mi pc lv (.inl (.int (y)) :: .inl (.int (x)) :: r) σ cnt Q := by
  intro n0 p e s m args below meth c H locs ls hn M hl hW hS hlv hst h1
  exact lv_isub M.1 M.2.1 hd (h n0 p e s m args below meth c H locs ls hn M hl hW hS hlv (okS_cons okV_int (okS_tl (okS_tl hst))) h1)
theorem so_imul {x y : Int32} (hd : decode (mCode mi) pc = .ok (.imul, 1)) (h : Go Γ mi (pc + 1) lv (.inl (.int (x * y)) :: r) σ cnt Q) : Go Γ mi pc lv (.inl (.int (y)) :: .inl (.int (x)) :: r) σ cnt Q := by
  intro n0 p e s m args below meth c H locs ls hn M hl hW hS hlv hst h1
  exact lv_imul M.1 M.2.1 hd (h n0 p e s m args below meth c H locs ls hn M hl hW hS hlv (okS_cons okV_int (okS_tl (okS_tl hst))) h1)
theorem so_iand {x y : Int32} (hd : decode (mCode mi) pc = .ok (.iand, 1)) (h : Go Γ mi (pc + 1) lv (.inl (.int (x &&& y)) :: r) σ cnt Q) : Go Γ mi pc lv (.inl (.int (y)) :: .inl (.int (x)) :: r) σ cnt Q := by
  intro n0 p e s m args below meth c H locs ls hn M hl hW hS hlv hst h1
  exact lv_iand M.1 M.2.1 hd (h n0 p e s m args below meth c H locs ls hn M hl hW hS hlv (okS_cons okV_int (okS_tl (okS_tl hst))) h1)
theorem so_ishr {x y : Int32} (hd : decode (mCode mi) pc = .ok (.ishr, 1)) (h : Go Γ mi (pc + 1) lv (.inl (.int (x >>> (y &&& 31))) :: r) σ cnt Q) : Go Γ mi pc lv (.inl (.int (y)) :: .inl (.int (x)) :: r) σ cnt Q := by
  intro n0 p e s m args below meth c H locs ls hn M hl hW hS hlv hst h1
  exact lv_ishr M.1 M.2.1 hd (h n0 p e s m args below meth c H locs ls hn M hl hW hS hlv (okS_cons okV_int (okS_tl (okS_tl hst))) h1)
theorem so_idiv {x y : Int32} (hy : ¬ y = 0) (hd : decode (mCode mi) pc = .ok (.idiv, 1)) (h : Go Γ mi (pc + 1) lv (.inl (.int (x / y)) :: r) σ cnt Q) : Go Γ mi pc lv (.inl (.int (y)) :: .inl (.int (x)) :: r) σ cnt Q := by
  intro n0 p e s m args below meth c H locs ls hn M hl hW hS hlv hst h1
  exact lv_idiv M.1 M.2.1 hd hy (h n0 p e s m args below meth c H locs ls hn M hl hW hS hlv (okS_cons okV_int (okS_tl (okS_tl hst))) h1)
theorem so_irem {x y : Int32} (hy : ¬ y = 0) (hd : decode (mCode mi) pc = .ok (.irem, 1)) (h : Go Γ mi (pc + 1) lv (.inl (.int (x - x / y * y)) :: r) σ cnt Q) : Go Γ mi pc lv (.inl (.int (y)) :: .inl (.int (x)) :: r) σ cnt Q := by
  intro n0 p e s m args below meth c H locs ls hn M hl hW hS hlv hst h1
  exact lv_irem M.1 M.2.1 hd hy (h n0 p e s m args below meth c H locs ls hn M hl hW hS hlv (okS_cons okV_int (okS_tl (okS_tl hst))) h1)
theorem so_ladd {x y : Int64} (hd : decode (mCode mi) pc = .ok (.ladd, 1)) (h : Go Γ mi (pc + 1) lv (.inl (.long (x + y)) :: r) σ cnt Q) : Go Γ mi pc lv (.inl (.long (y)) :: .inl (.long (x)) :: r) σ cnt Q := by
  intro n0 p e s m args below meth c H locs ls hn M hl hW hS hlv hst h1
  exact lv_ladd M.1 M.2.1 hd (h n0 p e s m args below meth c H locs ls hn M hl hW hS hlv (okS_cons okV_long (okS_tl (okS_tl hst))) h1)
theorem so_lsub {x y : Int64} (hd : decode (mCode mi) pc = .ok (.lsub, 1)) (h : Go Γ mi (pc + 1) lv (.inl (.long (x - y)) :: r) σ cnt Q) : Go Γ mi pc lv (.inl (.long (y)) :: .inl (.long (x)) :: r) σ cnt Q := by
  intro n0 p e s m args below meth c H locs ls hn M hl hW hS hlv hst h1
  exact lv_lsub M.1 M.2.1 hd (h n0 p e s m args below meth c H locs ls hn M hl hW hS hlv (okS_cons okV_long (okS_tl (okS_tl hst))) h1)
theorem so_lmul {x y : Int64} (hd : decode (mCode mi) pc = .ok (.lmul, 1)) (h : Go Γ mi (pc + 1) lv (.inl (.long (x * y)) :: r) σ cnt Q) : Go Γ mi pc lv (.inl (.long (y)) :: .inl (.long (x)) :: r) σ cnt Q := by
  intro n0 p e s m args below meth c H locs ls hn M hl hW hS hlv hst h1
  exact lv_lmul M.1 M.2.1 hd (h n0 p e s m args below meth c H locs ls hn M hl hW hS hlv (okS_cons okV_long (okS_tl (okS_tl hst))) h1)
theorem so_ldiv {x y : Int64} (hy : ¬ y = 0) (hd : decode (mCode mi) pc = .ok (.ldiv, 1)) (h : Go Γ mi (pc + 1) lv (.inl (.long (x / y)) :: r) σ cnt Q) : Go Γ mi pc lv (.inl (.long (y)) :: .inl (.long (x)) :: r) σ cnt Q := by
  intro n0 p e s m args below meth c H locs ls hn M hl hW hS hlv hst h1
  exact lv_ldiv M.1 M.2.1 hd hy (h n0 p e s m args below meth c H locs ls hn M hl hW hS hlv (okS_cons okV_long (okS_tl (okS_tl hst))) h1)
theorem so_lrem {x y : Int64} (hy : ¬ y = 0) (hd : decode (mCode mi) pc = .ok (.lrem, 1)) (h : Go Γ mi (pc + 1) lv (.inl (.long (x - x / y * y)) :: r) σ cnt Q) : Go Γ mi pc lv (.inl (.long (y)) :: .inl (.long (x)) :: r) σ cnt Q := by
  intro n0 p e s m args below meth c H locs ls hn M hl hW hS hlv hst h1
  exact lv_lrem M.1 M.2.1 hd hy (h n0 p e s m args below meth c H locs ls hn M hl hW hS hlv (okS_cons okV_long (okS_tl (okS_tl hst))) h1)
theorem so_ineg {x : Int32} (hd : decode (mCode mi) pc = .ok (.ineg, 1)) (h : Go Γ mi (pc + 1) lv (.inl (.int (-x)) :: r) σ cnt Q) : Go Γ mi pc lv (.inl (.int (x)) :: r) σ cnt Q := by
  intro n0 p e s m args below meth c H locs ls hn M hl hW hS hlv hst h1
  exact lv_ineg M.1 M.2.1 hd (h n0 p e s m args below meth c H locs ls hn M hl hW hS hlv (okS_cons okV_int (okS_tl hst)) h1)
theorem so_i2l {x : Int32} (hd : decode (mCode mi) pc = .ok (.i2l, 1)) (h : Go Γ mi (pc + 1) lv (.inl (.long (x.toInt64)) :: r) σ cnt Q) : Go Γ mi pc lv (.inl (.int (x)) :: r) σ cnt Q := by
  intro n0 p e s m args below meth c H locs ls hn M hl hW hS hlv hst h1
  exact lv_i2l M.1 M.2.1 hd rfl (h n0 p e s m args below meth c H locs ls hn M hl hW hS hlv (okS_cons okV_long (okS_tl hst)) h1)
theorem so_l2i {x : Int64} (hd : decode (mCode mi) pc = .ok (.l2i, 1)) (h : Go Γ mi (pc + 1) lv (.inl (.int (x.toInt32)) :: r) σ cnt Q) : Go Γ mi pc lv (.inl (.long (x)) :: r) σ cnt Q := by
  intro n0 p e s m args below meth c H locs ls hn M hl hW hS hlv hst h1
  exact lv_l2i M.1 M.2.1 hd rfl (h n0 p e s m args below meth c H locs ls hn M hl hW hS hlv (okS_cons okV_int (okS_tl hst)) h1)
theorem so_i2b {x : Int32} (hd : decode (mCode mi) pc = .ok (.i2b, 1)) (h : Go Γ mi (pc + 1) lv (.inl (.int (x.toInt8.toInt32)) :: r) σ cnt Q) : Go Γ mi pc lv (.inl (.int (x)) :: r) σ cnt Q := by
  intro n0 p e s m args below meth c H locs ls hn M hl hW hS hlv hst h1
  exact lv_i2b M.1 M.2.1 hd rfl (h n0 p e s m args below meth c H locs ls hn M hl hW hS hlv (okS_cons okV_int (okS_tl hst)) h1)
theorem so_lcmp {x y : Int64} (hd : decode (mCode mi) pc = .ok (.lcmp, 1)) (h : Go Γ mi (pc + 1) lv (.inl (.int (lg_cmp x y)) :: r) σ cnt Q) : Go Γ mi pc lv (.inl (.long (y)) :: .inl (.long (x)) :: r) σ cnt Q := by
  intro n0 p e s m args below meth c H locs ls hn M hl hW hS hlv hst h1
  exact W.lcmp M.1 M.2.1 hd (h n0 p e s m args below meth c H locs ls hn M hl hW hS hlv (okS_cons okV_int (okS_tl (okS_tl hst))) h1)
theorem so_dup {v : MV} (hv : catV v = 1) (hd : decode (mCode mi) pc = .ok (.dup, 1)) (h : Go Γ mi (pc + 1) lv (v :: v :: r) σ cnt Q) : Go Γ mi pc lv (v :: r) σ cnt Q := by
  intro n0 p e s m args below meth c H locs ls hn M hl hW hS hlv hst h1
  exact lv_dup M.1 M.2.1 hd (by rw [catV_eq]; exact hv) (h n0 p e s m args below meth c H locs ls hn M hl hW hS hlv (okS_cons (okS_hd hst) hst) h1)
theorem so_dup2 {v w : MV} (hv : catV v = 1) (hw : catV w = 1) (hd : decode (mCode mi) pc = .ok (.dup2, 1)) (h : Go Γ mi (pc + 1) lv (v :: w :: v :: w :: r) σ cnt Q) : Go Γ mi pc lv (v :: w :: r) σ cnt Q := by
  intro n0 p e s m args below meth c H locs ls hn M hl hW hS hlv hst h1
  exact lv_dup2_11 M.1 M.2.1 hd (by rw [catV_eq]; exact hv) (by rw [catV_eq]; exact hw) (h n0 p e s m args below meth c H locs ls hn M hl hW hS hlv (okS_cons (okS_hd hst) (okS_cons (okS_hd (okS_tl hst)) hst)) h1)
theorem so_iload_n {k : Fin 4} {x : Int32} (hd : decode (mCode mi) pc = .ok (.iload_n k, 1)) (hg : getL lv k = some (.inl (.int x))) (h : Go Γ mi (pc + 1) lv (.inl (.int x) :: r) σ cnt Q) : Go Γ mi pc lv r σ cnt Q := by
  intro n0 p e s m args below meth c H locs ls hn M hl hW hS hlv hst h1
  exact lv_iload_n M.1 M.2.1 hd rfl (getL_has hl hg) (h n0 p e s m args below meth c H locs ls hn M hl hW hS hlv (okS_cons (hlv _ (getL_mem hg)) hst) h1)
theorem so_iload {k : Nat} {x : Int32} (hd : decode (mCode mi) pc = .ok (.iload k, 2)) (hg : getL lv k = some (.inl (.int x))) (h : Go Γ mi (pc + 2) lv (.inl (.int x) :: r) σ cnt Q) : Go Γ mi pc lv r σ cnt Q := by
  intro n0 p e s m args below meth c H locs ls hn M hl hW hS hlv hst h1
  exact lv_iload M.1 M.2.1 hd (getL_has hl hg) (h n0 p e s m args below meth c H locs ls hn M hl hW hS hlv (okS_cons (hlv _ (getL_mem hg)) hst) h1)
theorem so_aload_n {k : Fin 4} {q : Nat × Nat} (hd : decode (mCode mi) pc = .ok (.aload_n k, 1)) (hg : getL lv k = some (.inr q)) (h : Go Γ mi (pc + 1) lv (.inr q :: r) σ cnt Q) : Go Γ mi pc lv r σ cnt Q := by
  intro n0 p e s m args below meth c H locs ls hn M hl hW hS hlv hst h1
  exact lv_aload_n M.1 M.2.1 hd rfl (getL_has hl hg) (h n0 p e s m args below meth c H locs ls hn M hl hW hS hlv (okS_cons (hlv _ (getL_mem hg)) hst) h1)
theorem so_aload {k : Nat} {q : Nat × Nat} (hd : decode (mCode mi) pc = .ok (.aload k, 2)) (hg : getL lv k = some (.inr q)) (h : Go Γ mi (pc + 2) lv (.inr q :: r) σ cnt Q) : Go Γ mi pc lv r σ cnt Q := by
  intro n0 p e s m args below meth c H locs ls hn M hl hW hS hlv hst h1
  exact lv_aload M.1 M.2.1 hd (getL_has hl hg) (h n0 p e s m args below meth c H locs ls hn M hl hW hS hlv (okS_cons (hlv _ (getL_mem hg)) hst) h1)
theorem so_lload_n {k : Fin 4} {x : Int64} (hd : decode (mCode mi) pc = .ok (.lload_n k, 1)) (hg : getL lv k = some (.inl (.long x))) (h : Go Γ mi (pc + 1) lv (.inl (.long x) :: r) σ cnt Q) : Go Γ mi pc lv r σ cnt Q := by
  intro n0 p e s m args below meth c H locs ls hn M hl hW hS hlv hst h1
  exact lv_lload_n M.1 M.2.1 hd rfl (getL_has hl hg) (h n0 p e s m args below meth c H locs ls hn M hl hW hS hlv (okS_cons (hlv _ (getL_mem hg)) hst) h1)
theorem so_lload {k : Nat} {x : Int64} (hd : decode (mCode mi) pc = .ok (.lload k, 2)) (hg : getL lv k = some (.inl (.long x))) (h : Go Γ mi (pc + 2) lv (.inl (.long x) :: r) σ cnt Q) : Go Γ mi pc lv r σ cnt Q := by
  intro n0 p e s m args below meth c H locs ls hn M hl hW hS hlv hst h1
  exact lv_lload M.1 M.2.1 hd (getL_has hl hg) (h n0 p e s m args below meth c H locs ls hn M hl hW hS hlv (okS_cons (hlv _ (getL_mem hg)) hst) h1)
theorem so_istore_n {k : Fin 4} {x : Int32} (hd : decode (mCode mi) pc = .ok (.istore_n k, 1)) (hm : (k : Nat) + 1 ≤ mMaxL mi) (h : Go Γ mi (pc + 1) (((k : Nat), .inl (.int x)) :: dropL lv (k : Nat)) r σ cnt Q) : Go Γ mi pc lv (.inl (.int x) :: r) σ cnt Q := by
  intro n0 p e s m args below meth c H locs ls hn M hl hW hS hlv hst h1
  exact lv_istore_n (lv' := toL Γ (((k : Nat), .inl (.int x)) :: dropL lv (k : Nat))) M.1 M.2.1 hd rfl hl (by omega) (by show _ :: _ = _ :: toL Γ _; rw [dropL_eq]; rfl) (fun ls2 hl2 => h n0 p e s m args below meth c H locs ls2 hn M hl2 hW hS (okL_set hlv (okS_hd hst)) (okS_tl hst) h1)
theorem so_istore {k : Nat} {x : Int32} (hd : decode (mCode mi) pc = .ok (.istore k, 2)) (hm : (k : Nat) + 1 ≤ mMaxL mi) (h : Go Γ mi (pc + 2) (((k : Nat), .inl (.int x)) :: dropL lv (k : Nat)) r σ cnt Q) : Go Γ mi pc lv (.inl (.int x) :: r) σ cnt Q := by
  intro n0 p e s m args below meth c H locs ls hn M hl hW hS hlv hst h1
  exact lv_istore (lv' := toL Γ (((k : Nat), .inl (.int x)) :: dropL lv (k : Nat))) M.1 M.2.1 hd hl (by omega) (by show _ :: _ = _ :: toL Γ _; rw [dropL_eq]; rfl) (fun ls2 hl2 => h n0 p e s m args below meth c H locs ls2 hn M hl2 hW hS (okL_set hlv (okS_hd hst)) (okS_tl hst) h1)
theorem so_astore_n {k : Fin 4} {q : Nat × Nat} (hd : decode (mCode mi) pc = .ok (.astore_n k, 1)) (hm : (k : Nat) + 1 ≤ mMaxL mi) (h : Go Γ mi (pc + 1) (((k : Nat), .inr q) :: dropL lv (k : Nat)) r σ cnt Q) : Go Γ mi pc lv (.inr q :: r) σ cnt Q := by
  intro n0 p e s m args below meth c H locs ls hn M hl hW hS hlv hst h1
  exact lv_astore_n (lv' := toL Γ (((k : Nat), .inr q) :: dropL lv (k : Nat))) M.1 M.2.1 hd rfl hl (by omega) (by show _ :: _ = _ :: toL Γ _; rw [dropL_eq]; rfl) (fun ls2 hl2 => h n0 p e s m args below meth c H locs ls2 hn M hl2 hW hS (okL_set hlv (okS_hd hst)) (okS_tl hst) h1)
theorem so_astore {k : Nat} {q : Nat × Nat} (hd : decode (mCode mi) pc = .ok (.astore k, 2)) (hm : (k : Nat) + 1 ≤ mMaxL mi) (h : Go Γ mi (pc + 2) (((k : Nat), .inr q) :: dropL lv (k : Nat)) r σ cnt Q) : Go Γ mi pc lv (.inr q :: r) σ cnt Q := by
  intro n0 p e s m args below meth c H locs ls hn M hl hW hS hlv hst h1
  exact lv_astore (lv' := toL Γ (((k : Nat), .inr q) :: dropL lv (k : Nat))) M.1 M.2.1 hd hl (by omega) (by show _ :: _ = _ :: toL Γ _; rw [dropL_eq]; rfl) (fun ls2 hl2 => h n0 p e s m args below meth c H locs ls2 hn M hl2 hW hS (okL_set hlv (okS_hd hst)) (okS_tl hst) h1)
theorem so_lstore_n {k : Fin 4} {x : Int64} (hd : decode (mCode mi) pc = .ok (.lstore_n k, 1)) (hm : (k : Nat) + 2 ≤ mMaxL mi) (h : Go Γ mi (pc + 1) (((k : Nat), .inl (.long x)) :: dropL2 lv (k : Nat)) r σ cnt Q) : Go Γ mi pc lv (.inl (.long x) :: r) σ cnt Q := by
  intro n0 p e s m args below meth c H locs ls hn M hl hW hS hlv hst h1
  exact lv_lstore_n (lv' := toL Γ (((k : Nat), .inl (.long x)) :: dropL2 lv (k : Nat))) M.1 M.2.1 hd rfl hl (by omega) (by show _ :: _ = _ :: toL Γ _; rw [dropL2_eq]; rfl) (fun ls2 hl2 => h n0 p e s m args below meth c H locs ls2 hn M hl2 hW hS (okL_set2 hlv (okS_hd hst)) (okS_tl hst) h1)
theorem so_lstore {k : Nat} {x : Int64} (hd : decode (mCode mi) pc = .ok (.lstore k, 2)) (hm : (k : Nat) + 2 ≤ mMaxL mi) (h : Go Γ mi (pc + 2) (((k : Nat), .inl (.long x)) :: dropL2 lv (k : Nat)) r σ cnt Q) : Go Γ mi pc lv (.inl (.long x) :: r) σ cnt Q := by
  intro n0 p e s m args below meth c H locs ls hn M hl hW hS hlv hst h1
  exact lv_lstore (lv' := toL Γ (((k : Nat), .inl (.long x)) :: dropL2 lv (k : Nat))) M.1 M.2.1 hd hl (by omega) (by show _ :: _ = _ :: toL Γ _; rw [dropL2_eq]; rfl) (fun ls2 hl2 => h n0 p e s m args below meth c H locs ls2 hn M hl2 hW hS (okL_set2 hlv (okS_hd hst)) (okS_tl hst) h1)
theorem toL_at {Γ : GG} {lv : LV} {i : Nat} {v : MV} (h : getL lv i = some v) : ∃ k : Nat, (toL Γ lv)[k]? = some (i, toV Γ v) :=
  List.getElem?_of_mem (List.mem_map.mpr ⟨(i, v), getL_mem h, rfl⟩)
theorem so_iinc {b : Nat} {a : Int} {x : Int32} (hd : decode (mCode mi) pc = .ok (.iinc b a, 3)) (hg : getL lv b = some (.inl (.int x))) (hm : b + 1 ≤ mMaxL mi) (h : Go Γ mi (pc + 3) ((b, .inl (.int (x + Int32.ofInt a))) :: dropL lv b) r σ cnt Q) : Go Γ mi pc lv r σ cnt Q := by
  intro n0 p e s m args below meth c H locs ls hn M hl hW hS hlv hst h1
  obtain ⟨k, hk⟩ := toL_at (Γ := Γ) hg
  exact lv_iinc (lv' := toL Γ ((b, .inl (.int (x + Int32.ofInt a))) :: dropL lv b)) M.1 M.2.1 hd hl hk rfl (by omega) (by show _ :: _ = _ :: toL Γ _; rw [dropL_eq]; rfl) (fun ls2 hl2 => h n0 p e s m args below meth c H locs ls2 hn M hl2 hW hS (okL_set hlv okV_int) hst h1)
theorem so_goto {off : Int} (hd : decode (mCode mi) pc = .ok (.goto off, 3)) (ho : 0 ≤ (pc : Int) + off) (h : Go Γ mi ((pc : Int) + off).toNat lv r σ cnt Q) : Go Γ mi pc lv r σ cnt Q := by
  intro n0 p e s m args below meth c H locs ls hn M hl hW hS hlv hst h1
  exact lv_goto M.1 M.2.1 hd (by omega) (h n0 p e s m args below meth c H locs ls hn M hl hW hS hlv hst h1)
theorem so_if_eq {off : Int} {x : Int32} (hd : decode (mCode mi) pc = .ok (.ifCond .eq off, 3)) (ho : 0 ≤ (pc : Int) + off) (h : (brC 0 x 0 → Go Γ mi ((pc : Int) + off).toNat lv r σ cnt Q) ∧ (¬ brC 0 x 0 → Go Γ mi (pc + 3) lv r σ cnt Q)) : Go Γ mi pc lv (.inl (.int x) :: r) σ cnt Q := by
  intro n0 p e s m args below meth c H locs ls hn M hl hW hS hlv hst h1
  exact lv_if_eq M.1 M.2.1 hd (by omega) (fun q => h.1 q n0 p e s m args below meth c H locs ls hn M hl hW hS hlv (okS_tl hst) h1) (fun q => h.2 q n0 p e s m args below meth c H locs ls hn M hl hW hS hlv (okS_tl hst) h1)
theorem so_icmp_eq {off : Int} {x y : Int32} (hd : decode (mCode mi) pc = .ok (.if_icmp .eq off, 3)) (ho : 0 ≤ (pc : Int) + off) (h : (brC 0 x y → Go Γ mi ((pc : Int) + off).toNat lv r σ cnt Q) ∧ (¬ brC 0 x y → Go Γ mi (pc + 3) lv r σ cnt Q)) : Go Γ mi pc lv (.inl (.int y) :: .inl (.int x) :: r) σ cnt Q := by
  intro n0 p e s m args below meth c H locs ls hn M hl hW hS hlv hst h1
  exact lv_icmp_eq M.1 M.2.1 hd (by omega) (fun q => h.1 q n0 p e s m args below meth c H locs ls hn M hl hW hS hlv (okS_tl (okS_tl hst)) h1) (fun q => h.2 q n0 p e s m args below meth c H locs ls hn M hl hW hS hlv (okS_tl (okS_tl hst)) h1)
theorem so_if_ne {off : Int} {x : Int32} (hd : decode (mCode mi) pc = .ok (.ifCond .ne off, 3)) (ho : 0 ≤ (pc : Int) + off) (h : (brC 1 x 0 → Go Γ mi ((pc : Int) + off).toNat lv r σ cnt Q) ∧ (¬ brC 1 x 0 → Go Γ mi (pc + 3) lv r σ cnt Q)) : Go Γ mi pc lv (.inl (.int x) :: r) σ cnt Q := by
  intro n0 p e s m args below meth c H locs ls hn M hl hW hS hlv hst h1
  exact lv_if_ne M.1 M.2.1 hd (by omega) (fun q => h.1 q n0 p e s m args below meth c H locs ls hn M hl hW hS hlv (okS_tl hst) h1) (fun q => h.2 (fun z => z q) n0 p e s m args below meth c H locs ls hn M hl hW hS hlv (okS_tl hst) h1)
theorem so_icmp_ne {off : Int} {x y : Int32} (hd : decode (mCode mi) pc = .ok (.if_icmp .ne off, 3)) (ho : 0 ≤ (pc : Int) + off) (h : (brC 1 x y → Go Γ mi ((pc : Int) + off).toNat lv r σ cnt Q) ∧ (¬ brC 1 x y → Go Γ mi (pc + 3) lv r σ cnt Q)) : Go Γ mi pc lv (.inl (.int y) :: .inl (.int x) :: r) σ cnt Q := by
  intro n0 p e s m args below meth c H locs ls hn M hl hW hS hlv hst h1
  exact lv_icmp_ne M.1 M.2.1 hd (by omega) (fun q => h.1 q n0 p e s m args below meth c H locs ls hn M hl hW hS hlv (okS_tl (okS_tl hst)) h1) (fun q => h.2 (fun z => z q) n0 p e s m args below meth c H locs ls hn M hl hW hS hlv (okS_tl (okS_tl hst)) h1)
theorem so_if_lt {off : Int} {x : Int32} (hd : decode (mCode mi) pc = .ok (.ifCond .lt off, 3)) (ho : 0 ≤ (pc : Int) + off) (h : (brC 2 x 0 → Go Γ mi ((pc : Int) + off).toNat lv r σ cnt Q) ∧ (¬ brC 2 x 0 → Go Γ mi (pc + 3) lv r σ cnt Q)) : Go Γ mi pc lv (.inl (.int x) :: r) σ cnt Q := by
  intro n0 p e s m args below meth c H locs ls hn M hl hW hS hlv hst h1
  exact lv_if_lt M.1 M.2.1 hd (by omega) (fun q => h.1 q n0 p e s m args below meth c H locs ls hn M hl hW hS hlv (okS_tl hst) h1) (fun q => h.2 q n0 p e s m args below meth c H locs ls hn M hl hW hS hlv (okS_tl hst) h1)
theorem so_icmp_lt {off : Int} {x y : Int32} (hd : decode (mCode mi) pc = .ok (.if_icmp .lt off, 3)) (ho : 0 ≤ (pc : Int) + off) (h : (brC 2 x y → Go Γ mi ((pc : Int) + off).toNat lv r σ cnt Q) ∧ (¬ brC 2 x y → Go Γ mi (pc + 3) lv r σ cnt Q)) : Go Γ mi pc lv (.inl (.int y) :: .inl (.int x) :: r) σ cnt Q := by
  intro n0 p e s m args below meth c H locs ls hn M hl hW hS hlv hst h1
  exact lv_icmp_lt M.1 M.2.1 hd (by omega) (fun q => h.1 q n0 p e s m args below meth c H locs ls hn M hl hW hS hlv (okS_tl (okS_tl hst)) h1) (fun q => h.2 q n0 p e s m args below meth c H locs ls hn M hl hW hS hlv (okS_tl (okS_tl hst)) h1)
theorem so_if_ge {off : Int} {x : Int32} (hd : decode (mCode mi) pc = .ok (.ifCond .ge off, 3)) (ho : 0 ≤ (pc : Int) + off) (h : (brC 3 x 0 → Go Γ mi ((pc : Int) + off).toNat lv r σ cnt Q) ∧ (¬ brC 3 x 0 → Go Γ mi (pc + 3) lv r σ cnt Q)) : Go Γ mi pc lv (.inl (.int x) :: r) σ cnt Q := by
  intro n0 p e s m args below meth c H locs ls hn M hl hW hS hlv hst h1
  exact lv_if_ge M.1 M.2.1 hd (by omega) (fun q => h.1 q n0 p e s m args below meth c H locs ls hn M hl hW hS hlv (okS_tl hst) h1) (fun q => h.2 q n0 p e s m args below meth c H locs ls hn M hl hW hS hlv (okS_tl hst) h1)
theorem so_icmp_ge {off : Int} {x y : Int32} (hd : decode (mCode mi) pc = .ok (.if_icmp .ge off, 3)) (ho : 0 ≤ (pc : Int) + off) (h : (brC 3 x y → Go Γ mi ((pc : Int) + off).toNat lv r σ cnt Q) ∧ (¬ brC 3 x y → Go Γ mi (pc + 3) lv r σ cnt Q)) : Go Γ mi pc lv (.inl (.int y) :: .inl (.int x) :: r) σ cnt Q := by
  intro n0 p e s m args below meth c H locs ls hn M hl hW hS hlv hst h1
  exact lv_icmp_ge M.1 M.2.1 hd (by omega) (fun q => h.1 q n0 p e s m args below meth c H locs ls hn M hl hW hS hlv (okS_tl (okS_tl hst)) h1) (fun q => h.2 q n0 p e s m args below meth c H locs ls hn M hl hW hS hlv (okS_tl (okS_tl hst)) h1)
theorem so_if_gt {off : Int} {x : Int32} (hd : decode (mCode mi) pc = .ok (.ifCond .gt off, 3)) (ho : 0 ≤ (pc : Int) + off) (h : (brC 4 x 0 → Go Γ mi ((pc : Int) + off).toNat lv r σ cnt Q) ∧ (¬ brC 4 x 0 → Go Γ mi (pc + 3) lv r σ cnt Q)) : Go Γ mi pc lv (.inl (.int x) :: r) σ cnt Q := by
  intro n0 p e s m args below meth c H locs ls hn M hl hW hS hlv hst h1
  exact lv_if_gt M.1 M.2.1 hd (by omega) (fun q => h.1 q n0 p e s m args below meth c H locs ls hn M hl hW hS hlv (okS_tl hst) h1) (fun q => h.2 q n0 p e s m args below meth c H locs ls hn M hl hW hS hlv (okS_tl hst) h1)
theorem so_icmp_gt {off : Int} {x y : Int32} (hd : decode (mCode mi) pc = .ok (.if_icmp .gt off, 3)) (ho : 0 ≤ (pc : Int) + off) (h : (brC 4 x y → Go Γ mi ((pc : Int) + off).toNat lv r σ cnt Q) ∧ (¬ brC 4 x y → Go Γ mi (pc + 3) lv r σ cnt Q)) : Go Γ mi pc lv (.inl (.int y) :: .inl (.int x) :: r) σ cnt Q := by
  intro n0 p e s m args below meth c H locs ls hn M hl hW hS hlv hst h1
  exact lv_icmp_gt M.1 M.2.1 hd (by omega) (fun q => h.1 q n0 p e s m args below meth c H locs ls hn M hl hW hS hlv (okS_tl (okS_tl hst)) h1) (fun q => h.2 q n0 p e s m args below meth c H locs ls hn M hl hW hS hlv (okS_tl (okS_tl hst)) h1)
theorem so_if_le {off : Int} {x : Int32} (hd : decode (mCode mi) pc = .ok (.ifCond .le off, 3)) (ho : 0 ≤ (pc : Int) + off) (h : (brC 5 x 0 → Go Γ mi ((pc : Int) + off).toNat lv r σ cnt Q) ∧ (¬ brC 5 x 0 → Go Γ mi (pc + 3) lv r σ cnt Q)) : Go Γ mi pc lv (.inl (.int x) :: r) σ cnt Q := by
  intro n0 p e s m args below meth c H locs ls hn M hl hW hS hlv hst h1
  exact lv_if_le M.1 M.2.1 hd (by omega) (fun q => h.1 q n0 p e s m args below meth c H locs ls hn M hl hW hS hlv (okS_tl hst) h1) (fun q => h.2 q n0 p e s m args below meth c H locs ls hn M hl hW hS hlv (okS_tl hst) h1)
theorem so_icmp_le {off : Int} {x y : Int32} (hd : decode (mCode mi) pc = .ok (.if_icmp .le off, 3)) (ho : 0 ≤ (pc : Int) + off) (h : (brC 5 x y → Go Γ mi ((pc : Int) + off).toNat lv r σ cnt Q) ∧ (¬ brC 5 x y → Go Γ mi (pc + 3) lv r σ cnt Q)) : Go Γ mi pc lv (.inl (.int y) :: .inl (.int x) :: r) σ cnt Q := by
  intro n0 p e s m args below meth c H locs ls hn M hl hW hS hlv hst h1
  exact lv_icmp_le M.1 M.2.1 hd (by omega) (fun q => h.1 q n0 p e s m args below meth c H locs ls hn M hl hW hS hlv (okS_tl (okS_tl hst)) h1) (fun q => h.2 q n0 p e s m args below meth c H locs ls hn M hl hW hS hlv (okS_tl (okS_tl hst)) h1)
theorem swA_in {x : Int32} {k : Nat → Prop} : ∀ {ts : List Nat} {lo : Int} {j t : Nat}, swA x k lo ts → ts[j]? = some t → x = Int32.ofInt (lo + j) → k t
  | [], _, _, _, _, h, _ => by cases h
  | t0 :: ts, lo, 0, t, h, ht, hx => by
    cases ht
    exact h.1 (by rw [hx]; simp)
  | t0 :: ts, lo, j + 1, t, h, ht, hx => swA_in (ts := ts) (lo := lo + 1) (j := j) h.2 ht (by rw [hx]; congr 1; push_cast; omega)
theorem so_switch {d lo hi : Int} {offs : Array Int} {len : Nat} {x : Int32} (hd : decode (mCode mi) pc = .ok (.tableswitch d lo hi offs, len)) (h0 : 0 ≤ (pc : Int) + d) (hh : hi = lo + (offs.toList.length : Int) - 1) (ha : ∀ o ∈ offs.toList, 0 ≤ (pc : Int) + o)
    (h : swA x (fun t => Go Γ mi t lv r σ cnt Q) lo (offs.toList.map (fun o => ((pc : Int) + o).toNat))) (h2 : (x.toInt < lo ∨ lo + (offs.toList.length : Int) - 1 < x.toInt) → Go Γ mi ((pc : Int) + d).toNat lv r σ cnt Q) : Go Γ mi pc lv (.inl (.int x) :: r) σ cnt Q := by
  intro n0 p e s m args below meth c H locs ls hn M hl hW hS hlv hst h1
  by_cases hx : x.toInt < lo ∨ hi < x.toInt
  · exact lv_tableOut M.1 M.2.1 hd hx (by omega) (h2 (by omega) n0 p e s m args below meth c H locs ls hn M hl hW hS hlv (okS_tl hst) h1)
  · have hlt : (x.toInt - lo).toNat < offs.toList.length := by omega
    obtain ⟨o, ho⟩ : ∃ o, offs.toList[(x.toInt - lo).toNat]? = some o := ⟨_, List.getElem?_eq_getElem hlt⟩
    have ho2 : offs[(x.toInt - lo).toNat]? = some o := by rw [← Array.getElem?_toList]; exact ho
    have hg := ha o (List.mem_of_getElem? ho)
    refine lv_tableIn (tgt := ((pc : Int) + o).toNat) M.1 M.2.1 hd (by omega) (by omega) ho2 (by omega) ?_
    have hk := swA_in (j := (x.toInt - lo).toNat) (t := ((pc : Int) + o).toNat) h (by rw [List.getElem?_map, ho]; rfl) (by
      have e : lo + (((x.toInt - lo).toNat : Nat) : Int) = x.toInt := by omega
      rw [e]; exact (Int32.ofInt_toInt x).symm)
    exact hk n0 p e s m args below meth c H locs ls hn M hl hW hS hlv (okS_tl hst) h1
end SND
