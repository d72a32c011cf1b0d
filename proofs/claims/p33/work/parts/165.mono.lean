def zmonoH (hd : zHd) : Prop := ∀ (pc : Nat) (ls : zL) (st : List zV) (h : zH) (pc' : Nat) (ls' : zL) (st' : List zV) (h' : zH), hd pc ls st h = some (.inl (pc', ls', st', h')) → h.length ≤ h'.length ∧ zsl h ≤ zsl h'
theorem mo_none : zmonoH (fun _ _ _ _ => none) := by
  intro pc ls st h pc' ls' st' h' hd
  cases hd
theorem zset_mono {h : zH} {k : Nat} {c0 c1 : zC} (hk : h[k]? = some c0) (hz : zsz c1 = zsz c0) : h.length ≤ (zset h c1 k).length ∧ zsl h ≤ zsl (zset h c1 k) := by
  rw [zset_eq, zsl_set hk hz, List.length_set]
  exact ⟨Nat.le_refl _, Nat.le_refl _⟩
theorem zapp_mono (h : zH) (c1 : zC) : h.length ≤ (h ++ [c1]).length ∧ zsl h ≤ zsl (h ++ [c1]) := by
  rw [zsl_app, List.length_append]
  exact ⟨Nat.le_add_right _ _, Nat.le_add_right _ _⟩
theorem mo_const {n : Nat} {v : zV} : zmonoH (hd_const n v) := by
  intro pc ls st h pc' ls' st' h' hd
  unfold hd_const at hd
  (try simp only [zfI_eq, zfN_eq, zbr, zjmp, Bool.cond_eq_ite] at hd)
  (repeat' split at hd) <;> first | (cases hd; done) | (cases hd; exact ⟨Nat.le_refl _, Nat.le_refl _⟩)
theorem mo_load {t : zV → Bool} {n x : Nat} : zmonoH (hd_load t n x) := by
  intro pc ls st h pc' ls' st' h' hd
  unfold hd_load at hd
  (try simp only [zfI_eq, zfN_eq, zbr, zjmp, Bool.cond_eq_ite] at hd)
  (repeat' split at hd) <;> first | (cases hd; done) | (cases hd; exact ⟨Nat.le_refl _, Nat.le_refl _⟩)
theorem mo_store {t : zV → Bool} {nL n x : Nat} : zmonoH (hd_store t nL n x) := by
  intro pc ls st h pc' ls' st' h' hd
  unfold hd_store at hd
  (try simp only [zfI_eq, zfN_eq, zbr, zjmp, Bool.cond_eq_ite] at hd)
  (repeat' split at hd) <;> first | (cases hd; done) | (cases hd; exact ⟨Nat.le_refl _, Nat.le_refl _⟩)
theorem mo_lstore {nL n x : Nat} : zmonoH (hd_lstore nL n x) := by
  intro pc ls st h pc' ls' st' h' hd
  unfold hd_lstore at hd
  (try simp only [zfI_eq, zfN_eq, zbr, zjmp, Bool.cond_eq_ite] at hd)
  (repeat' split at hd) <;> first | (cases hd; done) | (cases hd; exact ⟨Nat.le_refl _, Nat.le_refl _⟩)
theorem mo_iinc {nL x : Nat} {k : Int} : zmonoH (hd_iinc nL x k) := by
  intro pc ls st h pc' ls' st' h' hd
  unfold hd_iinc at hd
  (try simp only [zfI_eq, zfN_eq, zbr, zjmp, Bool.cond_eq_ite] at hd)
  (repeat' split at hd) <;> first | (cases hd; done) | (cases hd; exact ⟨Nat.le_refl _, Nat.le_refl _⟩)
theorem mo_bin {f : Int32 → Int32 → Int32} : zmonoH (hd_bin f) := by
  intro pc ls st h pc' ls' st' h' hd
  unfold hd_bin at hd
  (try simp only [zfI_eq, zfN_eq, zbr, zjmp, Bool.cond_eq_ite] at hd)
  (repeat' split at hd) <;> first | (cases hd; done) | (cases hd; exact ⟨Nat.le_refl _, Nat.le_refl _⟩)
theorem mo_div {f : Int32 → Int32 → Int32} : zmonoH (hd_div f) := by
  intro pc ls st h pc' ls' st' h' hd
  unfold hd_div at hd
  (try simp only [zfI_eq, zfN_eq, zbr, zjmp, Bool.cond_eq_ite] at hd)
  (repeat' split at hd) <;> first | (cases hd; done) | (cases hd; exact ⟨Nat.le_refl _, Nat.le_refl _⟩)
theorem mo_un {f : Int32 → Int32} : zmonoH (hd_un f) := by
  intro pc ls st h pc' ls' st' h' hd
  unfold hd_un at hd
  (try simp only [zfI_eq, zfN_eq, zbr, zjmp, Bool.cond_eq_ite] at hd)
  (repeat' split at hd) <;> first | (cases hd; done) | (cases hd; exact ⟨Nat.le_refl _, Nat.le_refl _⟩)
theorem mo_lbin {f : Int64 → Int64 → Int64} : zmonoH (hd_lbin f) := by
  intro pc ls st h pc' ls' st' h' hd
  unfold hd_lbin at hd
  (try simp only [zfI_eq, zfN_eq, zbr, zjmp, Bool.cond_eq_ite] at hd)
  (repeat' split at hd) <;> first | (cases hd; done) | (cases hd; exact ⟨Nat.le_refl _, Nat.le_refl _⟩)
theorem mo_ldiv {f : Int64 → Int64 → Int64} : zmonoH (hd_ldiv f) := by
  intro pc ls st h pc' ls' st' h' hd
  unfold hd_ldiv at hd
  (try simp only [zfI_eq, zfN_eq, zbr, zjmp, Bool.cond_eq_ite] at hd)
  (repeat' split at hd) <;> first | (cases hd; done) | (cases hd; exact ⟨Nat.le_refl _, Nat.le_refl _⟩)
theorem mo_lun {f : Int64 → Int64} : zmonoH (hd_lun f) := by
  intro pc ls st h pc' ls' st' h' hd
  unfold hd_lun at hd
  (try simp only [zfI_eq, zfN_eq, zbr, zjmp, Bool.cond_eq_ite] at hd)
  (repeat' split at hd) <;> first | (cases hd; done) | (cases hd; exact ⟨Nat.le_refl _, Nat.le_refl _⟩)
theorem mo_lsh {f : Int64 → Int32 → Int64} : zmonoH (hd_lsh f) := by
  intro pc ls st h pc' ls' st' h' hd
  unfold hd_lsh at hd
  (try simp only [zfI_eq, zfN_eq, zbr, zjmp, Bool.cond_eq_ite] at hd)
  (repeat' split at hd) <;> first | (cases hd; done) | (cases hd; exact ⟨Nat.le_refl _, Nat.le_refl _⟩)
theorem mo_i2l {bd : zB} : zmonoH (hd_i2l bd) := by
  intro pc ls st h pc' ls' st' h' hd
  unfold hd_i2l at hd
  (try simp only [zfI_eq, zfN_eq, zbr, zjmp, Bool.cond_eq_ite] at hd)
  (repeat' split at hd) <;> first | (cases hd; done) | (cases hd; exact ⟨Nat.le_refl _, Nat.le_refl _⟩)
theorem mo_l2i  : zmonoH (hd_l2i) := by
  intro pc ls st h pc' ls' st' h' hd
  unfold hd_l2i at hd
  (try simp only [zfI_eq, zfN_eq, zbr, zjmp, Bool.cond_eq_ite] at hd)
  (repeat' split at hd) <;> first | (cases hd; done) | (cases hd; exact ⟨Nat.le_refl _, Nat.le_refl _⟩)
theorem mo_lcmp {bd : zB} : zmonoH (hd_lcmp bd) := by
  intro pc ls st h pc' ls' st' h' hd
  unfold hd_lcmp at hd
  (try simp only [zfI_eq, zfN_eq, zbr, zjmp, Bool.cond_eq_ite] at hd)
  (repeat' split at hd) <;> first | (cases hd; done) | (cases hd; exact ⟨Nat.le_refl _, Nat.le_refl _⟩)
theorem mo_dup  : zmonoH (hd_dup) := by
  intro pc ls st h pc' ls' st' h' hd
  unfold hd_dup at hd
  (try simp only [zfI_eq, zfN_eq, zbr, zjmp, Bool.cond_eq_ite] at hd)
  (repeat' split at hd) <;> first | (cases hd; done) | (cases hd; exact ⟨Nat.le_refl _, Nat.le_refl _⟩)
theorem mo_dup2  : zmonoH (hd_dup2) := by
  intro pc ls st h pc' ls' st' h' hd
  unfold hd_dup2 at hd
  (try simp only [zfI_eq, zfN_eq, zbr, zjmp, Bool.cond_eq_ite] at hd)
  (repeat' split at hd) <;> first | (cases hd; done) | (cases hd; exact ⟨Nat.le_refl _, Nat.le_refl _⟩)
theorem mo_pop  : zmonoH (hd_pop) := by
  intro pc ls st h pc' ls' st' h' hd
  unfold hd_pop at hd
  (try simp only [zfI_eq, zfN_eq, zbr, zjmp, Bool.cond_eq_ite] at hd)
  (repeat' split at hd) <;> first | (cases hd; done) | (cases hd; exact ⟨Nat.le_refl _, Nat.le_refl _⟩)
theorem mo_if {bd : zB} {c : Jvm.ClassFile.Cond} {off : Int} : zmonoH (hd_if bd c off) := by
  intro pc ls st h pc' ls' st' h' hd
  unfold hd_if at hd
  (try simp only [zfI_eq, zfN_eq, zbr, zjmp, Bool.cond_eq_ite] at hd)
  (repeat' split at hd) <;> first | (cases hd; done) | (cases hd; exact ⟨Nat.le_refl _, Nat.le_refl _⟩)
theorem mo_icmp {bd : zB} {c : Jvm.ClassFile.Cond} {off : Int} : zmonoH (hd_icmp bd c off) := by
  intro pc ls st h pc' ls' st' h' hd
  unfold hd_icmp at hd
  (try simp only [zfI_eq, zfN_eq, zbr, zjmp, Bool.cond_eq_ite] at hd)
  (repeat' split at hd) <;> first | (cases hd; done) | (cases hd; exact ⟨Nat.le_refl _, Nat.le_refl _⟩)
theorem mo_acmp {c : ACond} {off : Int} : zmonoH (hd_acmp c off) := by
  intro pc ls st h pc' ls' st' h' hd
  unfold hd_acmp at hd
  (try simp only [zfI_eq, zfN_eq, zbr, zjmp, Bool.cond_eq_ite] at hd)
  (repeat' split at hd) <;> first | (cases hd; done) | (cases hd; exact ⟨Nat.le_refl _, Nat.le_refl _⟩)
theorem mo_null {b : Bool} {off : Int} : zmonoH (hd_null b off) := by
  intro pc ls st h pc' ls' st' h' hd
  unfold hd_null at hd
  (try simp only [zfI_eq, zfN_eq, zbr, zjmp, Bool.cond_eq_ite] at hd)
  (repeat' split at hd) <;> first | (cases hd; done) | (cases hd; exact ⟨Nat.le_refl _, Nat.le_refl _⟩)
theorem mo_goto {off : Int} : zmonoH (hd_goto off) := by
  intro pc ls st h pc' ls' st' h' hd
  unfold hd_goto at hd
  (try simp only [zfI_eq, zfN_eq, zbr, zjmp, Bool.cond_eq_ite] at hd)
  (repeat' split at hd) <;> first | (cases hd; done) | (cases hd; exact ⟨Nat.le_refl _, Nat.le_refl _⟩)
theorem mo_table {bd : zB} {d lo hi : Int} {offs : Array Int} : zmonoH (hd_table bd d lo hi offs) := by
  intro pc ls st h pc' ls' st' h' hd
  unfold hd_table at hd
  (try simp only [zfI_eq, zfN_eq, zbr, zjmp, Bool.cond_eq_ite] at hd)
  (repeat' split at hd) <;> first | (cases hd; done) | (cases hd; exact ⟨Nat.le_refl _, Nat.le_refl _⟩)
theorem mo_ald {tt : Nat → Bool} {t : zV → Bool} : zmonoH (hd_ald tt t) := by
  intro pc ls st h pc' ls' st' h' hd
  unfold hd_ald at hd
  (try simp only [zfI_eq, zfN_eq, zbr, zjmp, Bool.cond_eq_ite] at hd)
  (repeat' split at hd) <;> first | (cases hd; done) | (cases hd; exact ⟨Nat.le_refl _, Nat.le_refl _⟩)
theorem mo_alen  : zmonoH (hd_alen) := by
  intro pc ls st h pc' ls' st' h' hd
  unfold hd_alen at hd
  (try simp only [zfI_eq, zfN_eq, zbr, zjmp, Bool.cond_eq_ite] at hd)
  (repeat' split at hd) <;> first | (cases hd; done) | (cases hd; exact ⟨Nat.le_refl _, Nat.le_refl _⟩)
theorem mo_get {o : Option (Nat × Nat)} : zmonoH (hd_get o) := by
  intro pc ls st h pc' ls' st' h' hd
  unfold hd_get at hd
  (try simp only [zfI_eq, zfN_eq, zbr, zjmp, Bool.cond_eq_ite] at hd)
  (repeat' split at hd) <;> first | (cases hd; done) | (cases hd; exact ⟨Nat.le_refl _, Nat.le_refl _⟩)
theorem mo_ret {rk w : Nat} : zmonoH (hd_ret rk w) := by
  intro pc ls st h pc' ls' st' h' hd
  unfold hd_ret at hd
  (try simp only [zfI_eq, zfN_eq, zbr, zjmp, Bool.cond_eq_ite] at hd)
  (repeat' split at hd) <;> first | (cases hd; done) | (cases hd; exact ⟨Nat.le_refl _, Nat.le_refl _⟩)
theorem mo_ast {tt : Nat → Bool} {t : zV → Bool} : zmonoH (hd_ast tt t) := by
  intro pc ls st h pc' ls' st' h' hd
  unfold hd_ast at hd
  simp only [Bool.cond_eq_ite, znth_eq] at hd
  (repeat' split at hd) <;> first | (cases hd; done) | (cases hd; apply zset_mono; assumption; rfl)
theorem mo_aast {el : Nat → Nat} : zmonoH (hd_aast el) := by
  intro pc ls st h pc' ls' st' h' hd
  unfold hd_aast at hd
  simp only [Bool.cond_eq_ite, znth_eq] at hd
  (repeat' split at hd) <;> first | (cases hd; done) | (cases hd; apply zset_mono; assumption; rfl)
theorem mo_put {kinds : Nat → List Nat} {fin : Nat → Nat → Bool} {own : Nat} {ini : Bool} {o : Option (Nat × Nat)} : zmonoH (hd_put kinds fin own ini o) := by
  intro pc ls st h pc' ls' st' h' hd
  unfold hd_put at hd
  simp only [Bool.cond_eq_ite, znth_eq] at hd
  (repeat' split at hd) <;> first | (cases hd; done) | (cases hd; apply zset_mono; assumption; simp [zsz, zset_eq])
theorem mo_mk {n ty : Nat} {pc : Nat} {ls : zL} {st : List zV} {h : zH} {pc' : Nat} {ls' : zL} {st' : List zV} {h' : zH} (hd : zmk n ty pc ls st h = some (.inl (pc', ls', st', h'))) : h.length ≤ h'.length ∧ zsl h ≤ zsl h' := by
  obtain ⟨k, len, r, -, -, -, ho⟩ := zmk_spec hd
  cases ho
  exact zapp_mono _ _
theorem mo_newa {t : ArrayType} : zmonoH (hd_newa t) := by
  intro pc ls st h pc' ls' st' h' hd
  unfold hd_newa at hd
  split at hd
  · exact mo_mk hd
  · cases hd
theorem mo_anew {o : Option Nat} : zmonoH (hd_anew o) := by
  intro pc ls st h pc' ls' st' h' hd
  unfold hd_anew at hd
  split at hd
  · exact mo_mk hd
  · cases hd
theorem mo_new {kinds : Nat → List Nat} {o : Option Nat} : zmonoH (hd_new kinds o) := by
  intro pc ls st h pc' ls' st' h' hd
  unfold hd_new at hd
  split at hd
  · rw [zfN_eq] at hd
    cases hd
    exact zapp_mono _ _
  · cases hd
theorem mo_copy : zmonoH hd_copy := by
  intro pc ls st h pc' ls' st' h' hd
  unfold hd_copy at hd
  simp only [Bool.cond_eq_ite, znth_eq, zfN_eq] at hd
  (repeat' split at hd) <;> first | (cases hd; done) | (cases hd; apply zset_mono; assumption; rfl)
/-- a call never takes cells away -/
def zmonoC (call : zCall) : Prop := ∀ (y : Nat) (as : List zV) (h : zH) (r : Option zV) (h' : zH), call y as h = some (r, h') → h.length ≤ h'.length ∧ zsl h ≤ zsl h'
theorem mo_back {call : zCall} (hc : zmonoC call) {y : Nat} {as : List zV} {pc : Nat} {ls : zL} {r : List zV} {h : zH} {pc' : Nat} {ls' : zL} {st' : List zV} {h' : zH} (hd : zback call y as pc ls r h = some (.inl (pc', ls', st', h'))) : h.length ≤ h'.length ∧ zsl h ≤ zsl h' := by
  unfold zback at hd
  split at hd
  next v h1 hcall => cases hd; exact hc _ _ _ _ _ hcall
  next => cases hd
theorem mo_virt {call : zCall} (hc : zmonoC call) {na ow : Nat → Nat} {o : Option (Nat × Nat)} : zmonoH (hd_virt call na ow o) := by
  intro pc ls st h pc' ls' st' h' hd
  unfold hd_virt at hd
  simp only [Bool.cond_eq_ite] at hd
  (repeat' split at hd) <;> first | (cases hd; done) | exact mo_back hc hd
theorem mo_stat {call : zCall} (hc : zmonoC call) {na : Nat → Nat} {o : Option (Nat × Nat)} : zmonoH (hd_stat call na o) := by
  intro pc ls st h pc' ls' st' h' hd
  unfold hd_stat at hd
  simp only [Bool.cond_eq_ite, zfI_eq] at hd
  (repeat' split at hd) <;> first | (cases hd; done) | exact mo_back hc hd | exact mo_copy _ _ _ _ _ _ _ _ hd | (cases hd; exact ⟨Nat.le_refl _, Nat.le_refl _⟩)
theorem mo_spec {call : zCall} (hc : zmonoC call) {na : Nat → Nat} {o : Option (Nat × Nat)} : zmonoH (hd_spec call na o) := by
  intro pc ls st h pc' ls' st' h' hd
  unfold hd_spec at hd
  simp only [Bool.cond_eq_ite] at hd
  (repeat' split at hd) <;> first | (cases hd; done) | exact mo_back hc hd | (cases hd; exact ⟨Nat.le_refl _, Nat.le_refl _⟩)
set_option maxHeartbeats 4000000 in
theorem mo_ops {call : zCall} (hc : zmonoC call) {bd : zB} {own nL rk : Nat} {ini : Bool} (i : Instr) : zmonoH (zops call bd own nL rk ini i) := by
  cases i with
  | ldc x => unfold zops; dsimp only; split <;> first | exact mo_const | exact mo_none
  | ldc_w x => unfold zops; dsimp only; split <;> first | exact mo_const | exact mo_none
  | ldc2_w x => unfold zops; dsimp only; split <;> first | exact mo_const | exact mo_none
  | iconst k => exact (mo_const : zmonoH (hd_const 1 (0, k)))
  | bipush k => exact (mo_const : zmonoH (hd_const 2 (0, (Int8.ofInt k).toInt32.toInt)))
  | sipush k => exact (mo_const : zmonoH (hd_const 3 (0, (Int16.ofInt k).toInt32.toInt)))
  | lconst k => exact (mo_const : zmonoH (hd_const 1 (2, (Int64.ofNat (k : Nat)).toInt)))
  | iload_n k => exact (mo_load : zmonoH (hd_load zisI 1 (k : Nat)))
  | iload k => exact (mo_load : zmonoH (hd_load zisI 2 k))
  | lload_n k => exact (mo_load : zmonoH (hd_load zisJ 1 (k : Nat)))
  | lload k => exact (mo_load : zmonoH (hd_load zisJ 2 k))
  | aload_n k => exact (mo_load : zmonoH (hd_load zisR 1 (k : Nat)))
  | aload k => exact (mo_load : zmonoH (hd_load zisR 2 k))
  | istore_n k => exact (mo_store : zmonoH (hd_store zisI nL 1 (k : Nat)))
  | istore k => exact (mo_store : zmonoH (hd_store zisI nL 2 k))
  | astore_n k => exact (mo_store : zmonoH (hd_store zisR nL 1 (k : Nat)))
  | astore k => exact (mo_store : zmonoH (hd_store zisR nL 2 k))
  | lstore_n k => exact (mo_lstore : zmonoH (hd_lstore nL 1 (k : Nat)))
  | lstore k => exact (mo_lstore : zmonoH (hd_lstore nL 2 k))
  | iinc x k => exact (mo_iinc : zmonoH (hd_iinc nL x k))
  | iadd => exact (mo_bin : zmonoH (hd_bin (fun x y => x + y)))
  | isub => exact (mo_bin : zmonoH (hd_bin (fun x y => x - y)))
  | imul => exact (mo_bin : zmonoH (hd_bin (fun x y => x * y)))
  | iand => exact (mo_bin : zmonoH (hd_bin (fun x y => x &&& y)))
  | ior => exact (mo_bin : zmonoH (hd_bin (fun x y => x ||| y)))
  | ishl => exact (mo_bin : zmonoH (hd_bin (fun x y => x <<< (y &&& 31))))
  | ishr => exact (mo_bin : zmonoH (hd_bin (fun x y => x >>> (y &&& 31))))
  | iushr => exact (mo_bin : zmonoH (hd_bin (fun x y => (x.toUInt32 >>> (y.toUInt32 &&& Int32.toUInt32 31)).toInt32)))
  | idiv => exact (mo_div : zmonoH (hd_div (fun x y => x / y)))
  | irem => exact (mo_div : zmonoH (hd_div (fun x y => x - x / y * y)))
  | ineg => exact (mo_un : zmonoH (hd_un (fun x => -x)))
  | i2b => exact (mo_un : zmonoH (hd_un (fun x => x.toInt8.toInt32)))
  | i2s => exact (mo_un : zmonoH (hd_un (fun x => x.toInt16.toInt32)))
  | ladd => exact (mo_lbin : zmonoH (hd_lbin (fun x y => x + y)))
  | lsub => exact (mo_lbin : zmonoH (hd_lbin (fun x y => x - y)))
  | lmul => exact (mo_lbin : zmonoH (hd_lbin (fun x y => x * y)))
  | land => exact (mo_lbin : zmonoH (hd_lbin (fun x y => x &&& y)))
  | lor => exact (mo_lbin : zmonoH (hd_lbin (fun x y => x ||| y)))
  | lxor => exact (mo_lbin : zmonoH (hd_lbin (fun x y => x ^^^ y)))
  | ldiv => exact (mo_ldiv : zmonoH (hd_ldiv (fun x y => x / y)))
  | lrem => exact (mo_ldiv : zmonoH (hd_ldiv (fun x y => x - x / y * y)))
  | lneg => exact (mo_lun : zmonoH (hd_lun (fun x => -x)))
  | lshl => exact (mo_lsh : zmonoH (hd_lsh (fun x y => x <<< (y.toInt64 &&& 63))))
  | lushr => exact (mo_lsh : zmonoH (hd_lsh (fun x y => (x.toUInt64 >>> (y.toInt64.toUInt64 &&& Int64.toUInt64 63)).toInt64)))
  | i2l => exact (mo_i2l : zmonoH (hd_i2l bd))
  | l2i => exact (mo_l2i : zmonoH (hd_l2i))
  | lcmp => exact (mo_lcmp : zmonoH (hd_lcmp bd))
  | dup => exact (mo_dup : zmonoH (hd_dup))
  | dup2 => exact (mo_dup2 : zmonoH (hd_dup2))
  | pop => exact (mo_pop : zmonoH (hd_pop))
  | ifCond c off => exact (mo_if : zmonoH (hd_if bd c off))
  | if_icmp c off => exact (mo_icmp : zmonoH (hd_icmp bd c off))
  | if_acmp c off => exact (mo_acmp : zmonoH (hd_acmp c off))
  | ifnull off => exact (mo_null : zmonoH (hd_null true off))
  | ifnonnull off => exact (mo_null : zmonoH (hd_null false off))
  | goto off => exact (mo_goto : zmonoH (hd_goto off))
  | tableswitch d lo hi offs => exact (mo_table : zmonoH (hd_table bd d lo hi offs))
  | iaload => exact (mo_ald : zmonoH (hd_ald (fun t => Nat.beq t 0) zisI))
  | laload => exact (mo_ald : zmonoH (hd_ald (fun t => Nat.beq t 1) zisJ))
  | baload => exact (mo_ald : zmonoH (hd_ald (fun t => Nat.beq t 2) zbit))
  | aaload => exact (mo_ald : zmonoH (hd_ald (fun t => Nat.blt 2 t && Nat.blt t 6) zisR))
  | iastore => exact (mo_ast : zmonoH (hd_ast (fun t => Nat.beq t 0) zisI))
  | lastore => exact (mo_ast : zmonoH (hd_ast (fun t => Nat.beq t 1) zisJ))
  | bastore => exact (mo_ast : zmonoH (hd_ast (fun t => Nat.beq t 2) zbit))
  | aastore => exact (mo_aast : zmonoH (hd_aast zel))
  | arraylength => exact (mo_alen : zmonoH (hd_alen))
  | newarray t => exact (mo_newa : zmonoH (hd_newa t))
  | anewarray x => exact (mo_anew : zmonoH (hd_anew (zal own x)))
  | new x => exact (mo_new : zmonoH (hd_new zkinds (zcl own x)))
  | getfield x => exact (mo_get : zmonoH (hd_get (zfl own x)))
  | putfield x => exact (mo_put : zmonoH (hd_put zkinds zfin own ini (zfl own x)))
  | invokevirtual x => exact (mo_virt hc : zmonoH (hd_virt call zna zown (zml own x)))
  | invokestatic x => exact (mo_stat hc : zmonoH (hd_stat call zna (zml own x)))
  | invokespecial x => exact (mo_spec hc : zmonoH (hd_spec call zna (zml own x)))
  | ireturn => exact (mo_ret : zmonoH (hd_ret rk 0))
  | lreturn => exact (mo_ret : zmonoH (hd_ret rk 1))
  | areturn => exact (mo_ret : zmonoH (hd_ret rk 2))
  | return_ => exact (mo_ret : zmonoH (hd_ret rk 3))
  | _ => exact mo_none
theorem mo_run {ops : Instr → zHd} {code : Nat → Option Instr} (hops : ∀ i, zmonoH (ops i)) (hret : ∀ (i : Instr) (pc : Nat) (ls : zL) (st : List zV) (h : zH) (q : Option zV × zH), zisret i = true → ops i pc ls st h = some (.inr q) → q.2 = h) (r : Option zV) (h' : zH) : ∀ (fuel pc : Nat) (ls : zL) (st : List zV) (h : zH), zrun ops code fuel pc ls st h = some (r, h') → h.length ≤ h'.length ∧ zsl h ≤ zsl h' := by
  intro fuel
  induction fuel with
  | zero => intro pc ls st h hr; cases hr
  | succ n ih =>
    intro pc ls st h hr
    replace hr : zfN pc (fun pc => match cond (Nat.blt pc 512) (code pc) none with
      | none => none
      | some i => match ops i pc ls st h with
        | none => none
        | some (.inl q) => zrun ops code n q.1 q.2.1 q.2.2.1 q.2.2.2
        | some (.inr r) => cond (zisret i) (some r) none) = some (r, h') := hr
    rw [zfN_eq] at hr
    split at hr
    next => cases hr
    next i hi =>
      split at hr
      next => cases hr
      next q hq =>
        obtain ⟨pc1, ls1, st1, h1⟩ := q
        obtain ⟨m1, m2⟩ := hops i pc ls st h pc1 ls1 st1 h1 hq
        obtain ⟨m3, m4⟩ := ih pc1 ls1 st1 h1 hr
        exact ⟨Nat.le_trans m1 m3, Nat.le_trans m2 m4⟩
      next q hq =>
        cases hz : zisret i with
        | false => rw [hz] at hr; cases hr
        | true =>
          rw [hz] at hr
          have e1 : q = (r, h') := Option.some.inj hr
          have e2 := hret i pc ls st h q hz hq
          rw [e1] at e2
          have e3 : h' = h := e2
          rw [e3]
          exact ⟨Nat.le_refl _, Nat.le_refl _⟩
theorem mo_retq {rk w : Nat} {pc : Nat} {ls : zL} {st : List zV} {h : zH} {q : Option zV × zH} (hd : hd_ret rk w pc ls st h = some (.inr q)) : q.2 = h := by
  unfold hd_ret at hd
  simp only [Bool.cond_eq_ite] at hd
  (repeat' split at hd) <;> first | (cases hd; done) | (cases hd; rfl)
theorem mo_exec (bd : zB) (F : Nat) : ∀ d : Nat, zmonoC (zexec bd F d) := by
  intro d
  induction d with
  | zero => intro y as h r h' hr; cases hr
  | succ d ih =>
    intro y as h r h' hr
    replace hr : zbody (zexec bd F d) bd F y as h = some (r, h') := hr
    unfold zbody at hr
    split at hr
    next => cases hr
    next q hq =>
      rw [Bool.cond_eq_ite] at hr
      split at hr
      · refine mo_run (fun i => mo_ops ih i) (fun i pc ls st h q hz hq => ?_) r h' F 0 _ [] h hr
        unfold zisret at hz
        split at hz
        · exact mo_retq (pc := pc) (ls := ls) hq
        · exact mo_retq (pc := pc) (ls := ls) hq
        · exact mo_retq (pc := pc) (ls := ls) hq
        · exact mo_retq (pc := pc) (ls := ls) hq
        · cases hz
      · cases hr
