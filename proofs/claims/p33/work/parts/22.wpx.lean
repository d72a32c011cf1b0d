/-! methods that make nothing and write no reference -/
abbrev gP : Type := Option zV → gV → Prop
abbrev wpv (K : gK) (d : Nat) (P : gP) (pc : Nat) (L : gL) (st : List zV) (G : List gS) (R V : gV) : Prop := wp K d (fun r G' R' V' => G' = G ∧ R' = R ∧ P r V') pc L st G R V
abbrev cwv (d : Nat) (P : gP) (y : Nat) (as : List zV) (G : List gS) (R V : gV) : Prop := cw d (fun r G' R' V' => G' = G ∧ R' = R ∧ P r V') y as G R V
theorem cwv_mono {d d2 : Nat} {P P' : gP} {y : Nat} {as : List zV} {G : List gS} {R V : gV} (hd : d ≤ d2) (w : cwv d P y as G R V) (hP : ∀ r V, P r V → P' r V) : cwv d2 P' y as G R V := cw_mono hd w (fun r G' R' V' h => ⟨h.1, h.2.1, hP r V' h.2.2⟩)
section
variable {K : gK} {d : Nat} {Q : gQ} {pc pc2 : Nat} {L : gL} {st : List zV} {G : List gS} {R V : gV} {i : Instr}
theorem cwv_kI {y : Nat} {as : List zV} {X : Int → gV → Prop} (w : cwv d (fun r V' => ∃ v : Int, r = some (0, v) ∧ X v V') y as G R V) (k : ∀ (v : Int) (V' : gV), X v V' → wp K d Q pc2 L ((0, v) :: st) G R V') : cw d (fun r G' R' V' => wp K d Q pc2 L (r.toList ++ st) G' R' V') y as G R V := by
  refine cw_mono (Nat.le_refl _) w (fun r G' R' V' h => ?_)
  obtain ⟨e1, e2, v, e3, h⟩ := h
  rw [e1, e2, e3]
  exact k v V' h
theorem cwv_kJ {y : Nat} {as : List zV} {X : Int → gV → Prop} (w : cwv d (fun r V' => ∃ v : Int, r = some (2, v) ∧ X v V') y as G R V) (k : ∀ (v : Int) (V' : gV), X v V' → wp K d Q pc2 L ((2, v) :: st) G R V') : cw d (fun r G' R' V' => wp K d Q pc2 L (r.toList ++ st) G' R' V') y as G R V := by
  refine cw_mono (Nat.le_refl _) w (fun r G' R' V' h => ?_)
  obtain ⟨e1, e2, v, e3, h⟩ := h
  rw [e1, e2, e3]
  exact k v V' h
theorem cwv_k0 {y : Nat} {as : List zV} {X : gV → Prop} (w : cwv d (fun r V' => r = none ∧ X V') y as G R V) (k : ∀ (V' : gV), X V' → wp K d Q pc2 L st G R V') : cw d (fun r G' R' V' => wp K d Q pc2 L (r.toList ++ st) G' R' V') y as G R V := by
  refine cw_mono (Nat.le_refl _) w (fun r G' R' V' h => ?_)
  obtain ⟨e1, e2, e3, h⟩ := h
  rw [e1, e2, e3]
  exact k V' h
theorem wp_getI {x a ci k : Nat} {k' : Int} (hp : Nat.blt pc 512 = true) (hc : K.1 pc = some (.getfield x)) (ho : zfl K.2.1 x = some (ci, k)) (hG : G[a]? = some (.inl ci)) (hk : (zkinds ci)[k]? = some 0) (e : (k : Int) = k') (nx : wp K d Q (pc + 3) L ((0, V a k') :: st) G R V) : wp K d Q pc L ((4, (a : Int)) :: st) G R V := by
  subst e
  exact wp_get hp hc ho hG hk rfl nx
theorem wp_getJ {x a ci k : Nat} {k' : Int} (hp : Nat.blt pc 512 = true) (hc : K.1 pc = some (.getfield x)) (ho : zfl K.2.1 x = some (ci, k)) (hG : G[a]? = some (.inl ci)) (hk : (zkinds ci)[k]? = some 1) (e : (k : Int) = k') (nx : wp K d Q (pc + 3) L ((2, V a k') :: st) G R V) : wp K d Q pc L ((4, (a : Int)) :: st) G R V := by
  subst e
  exact wp_get hp hc ho hG hk rfl nx
theorem wp_getA {x a ci k b : Nat} {k' : Int} (hp : Nat.blt pc 512 = true) (hc : K.1 pc = some (.getfield x)) (ho : zfl K.2.1 x = some (ci, k)) (hG : G[a]? = some (.inl ci)) (hk : (zkinds ci)[k]? = some 2) (e : (k : Int) = k') (hr : R a k' = (b : Int)) (nx : wp K d Q (pc + 3) L ((4, (b : Int)) :: st) G R V) : wp K d Q pc L ((4, (a : Int)) :: st) G R V := by
  subst e
  exact wp_get hp hc ho hG hk (by show rf (R a k) = _; rw [hr]; rfl) nx
theorem wp_getN {x a ci k : Nat} {k' : Int} (hp : Nat.blt pc 512 = true) (hc : K.1 pc = some (.getfield x)) (ho : zfl K.2.1 x = some (ci, k)) (hG : G[a]? = some (.inl ci)) (hk : (zkinds ci)[k]? = some 2) (e : (k : Int) = k') (nx : wp K d Q (pc + 3) L (rf (R a k') :: st) G R V) : wp K d Q pc L ((4, (a : Int)) :: st) G R V := by
  subst e
  exact wp_get hp hc ho hG hk rfl nx
theorem wp_putI {x a ci k : Nat} {c k' : Int} (hp : Nat.blt pc 512 = true) (hc : K.1 pc = some (.putfield x)) (ho : zfl K.2.1 x = some (ci, k)) (hG : G[a]? = some (.inl ci)) (hk : (zkinds ci)[k]? = some 0) (hf : (!(zfin ci k) || (K.2.2.2.2 && Nat.beq K.2.1 ci)) = true) (e : (k : Int) = k') (hr : i32 c) (nx : wp K d Q (pc + 3) L st G R (wr V a k' c)) : wp K d Q pc L ((0, c) :: (4, (a : Int)) :: st) G R V := by
  subst e
  exact wp_putV hp hc ho hG hk hf (by omega) rfl hr nx
theorem wp_putJ {x a ci k : Nat} {c k' : Int} (hp : Nat.blt pc 512 = true) (hc : K.1 pc = some (.putfield x)) (ho : zfl K.2.1 x = some (ci, k)) (hG : G[a]? = some (.inl ci)) (hk : (zkinds ci)[k]? = some 1) (hf : (!(zfin ci k) || (K.2.2.2.2 && Nat.beq K.2.1 ci)) = true) (e : (k : Int) = k') (hr : i64 c) (nx : wp K d Q (pc + 3) L st G R (wr V a k' c)) : wp K d Q pc L ((2, c) :: (4, (a : Int)) :: st) G R V := by
  subst e
  exact wp_putV hp hc ho hG hk hf (by omega) rfl hr nx
theorem wp_putA {x a ci k b : Nat} {k' : Int} (hp : Nat.blt pc 512 = true) (hc : K.1 pc = some (.putfield x)) (ho : zfl K.2.1 x = some (ci, k)) (hG : G[a]? = some (.inl ci)) (hk : (zkinds ci)[k]? = some 2) (hf : (!(zfin ci k) || (K.2.2.2.2 && Nat.beq K.2.1 ci)) = true) (e : (k : Int) = k') (nx : wp K d Q (pc + 3) L st G (wr R a k' (b : Int)) V) : wp K d Q pc L ((4, (b : Int)) :: (4, (a : Int)) :: st) G R V := by
  subst e
  exact wp_putR (r := (b : Int)) hp hc ho hG hk hf nx
theorem wp_aI {a n : Nat} {x : Int} (hp : Nat.blt pc 512 = true) (hc : K.1 pc = some .iaload) (hG : G[a]? = some (.inr (0, n))) (h : 0 ≤ x ∧ x < n) (nx : wp K d Q (pc + 1) L ((0, V a x) :: st) G R V) : wp K d Q pc L ((0, x) :: (4, (a : Int)) :: st) G R V := wp_ald hp hc (fun _ => rfl) hG rfl h.1 h.2 rfl (fun _ => rfl) nx
theorem wp_aJ {a n : Nat} {x : Int} (hp : Nat.blt pc 512 = true) (hc : K.1 pc = some .laload) (hG : G[a]? = some (.inr (1, n))) (h : 0 ≤ x ∧ x < n) (nx : wp K d Q (pc + 1) L ((2, V a x) :: st) G R V) : wp K d Q pc L ((0, x) :: (4, (a : Int)) :: st) G R V := wp_ald hp hc (fun _ => rfl) hG rfl h.1 h.2 rfl (fun _ => rfl) nx
theorem zbit_c {v : Int} (h : v = 0 ∨ v = 1) : zbit (0, v) = true := by
  rcases h with h | h <;> subst h <;> rfl
theorem wp_aB {a n : Nat} {x : Int} (hp : Nat.blt pc 512 = true) (hc : K.1 pc = some .baload) (hG : G[a]? = some (.inr (2, n))) (h : 0 ≤ x ∧ x < n) (nx : wp K d Q (pc + 1) L ((0, V a x) :: st) G R V) : wp K d Q pc L ((0, x) :: (4, (a : Int)) :: st) G R V := wp_ald hp hc (fun _ => rfl) hG rfl h.1 h.2 rfl (fun q => zbit_c q) nx
theorem wp_aA {a ty n b : Nat} {x : Int} (hp : Nat.blt pc 512 = true) (hc : K.1 pc = some .aaload) (hG : G[a]? = some (.inr (ty, n))) (hty : (Nat.blt 2 ty && Nat.blt ty 6) = true) (h : 0 ≤ x ∧ x < n) (hr : R a x = (b : Int)) (nx : wp K d Q (pc + 1) L ((4, (b : Int)) :: st) G R V) : wp K d Q pc L ((0, x) :: (4, (a : Int)) :: st) G R V := by
  refine wp_ald (ty := ty) hp hc (fun _ => rfl) hG hty h.1 h.2 ?_ (fun _ => rfl) nx
  match ty, hty with
  | m + 3, _ => show rf (R a x) = _; rw [hr]; rfl
theorem wp_aN {a ty n : Nat} {x : Int} (hp : Nat.blt pc 512 = true) (hc : K.1 pc = some .aaload) (hG : G[a]? = some (.inr (ty, n))) (hty : (Nat.blt 2 ty && Nat.blt ty 6) = true) (h : 0 ≤ x ∧ x < n) (nx : wp K d Q (pc + 1) L (rf (R a x) :: st) G R V) : wp K d Q pc L ((0, x) :: (4, (a : Int)) :: st) G R V := by
  refine wp_ald (ty := ty) (v := rf (R a x)) hp hc (fun _ => rfl) hG hty h.1 h.2 ?_ (fun _ => ?_) nx
  · match ty, hty with
    | m + 3, _ => rfl
  · match R a x with
    | .ofNat _ => rfl
    | .negSucc _ => rfl
theorem wp_sI {a n : Nat} {x c : Int} (hp : Nat.blt pc 512 = true) (hc : K.1 pc = some .iastore) (hG : G[a]? = some (.inr (0, n))) (h : 0 ≤ x ∧ x < n) (hr : i32 c) (nx : wp K d Q (pc + 1) L st G R (wr V a x c)) : wp K d Q pc L ((0, c) :: (0, x) :: (4, (a : Int)) :: st) G R V := wp_astV hp hc (fun _ => rfl) hG rfl (by omega) h.1 h.2 rfl rfl hr nx
theorem wp_sJ {a n : Nat} {x c : Int} (hp : Nat.blt pc 512 = true) (hc : K.1 pc = some .lastore) (hG : G[a]? = some (.inr (1, n))) (h : 0 ≤ x ∧ x < n) (hr : i64 c) (nx : wp K d Q (pc + 1) L st G R (wr V a x c)) : wp K d Q pc L ((2, c) :: (0, x) :: (4, (a : Int)) :: st) G R V := wp_astV hp hc (fun _ => rfl) hG rfl (by omega) h.1 h.2 rfl rfl hr nx
theorem wp_sB {a n : Nat} {x c : Int} (hp : Nat.blt pc 512 = true) (hc : K.1 pc = some .bastore) (hG : G[a]? = some (.inr (2, n))) (h : 0 ≤ x ∧ x < n) (hr : c = 0 ∨ c = 1) (nx : wp K d Q (pc + 1) L st G R (wr V a x c)) : wp K d Q pc L ((0, c) :: (0, x) :: (4, (a : Int)) :: st) G R V := wp_astV hp hc (fun _ => rfl) hG rfl (by omega) h.1 h.2 rfl (zbit_c hr) hr nx
/-! what a number read from the heap keeps to -/
theorem vr_f0 (vr : VR G V) {a ci k : Nat} {k' : Int} (hG : G[a]? = some (.inl ci)) (hk : (zkinds ci)[k]? = some 0) (e : (k : Int) = k') : i32 (V a k') := by
  subst e
  exact vr.1 a ci k 0 hG hk
theorem vr_f1 (vr : VR G V) {a ci k : Nat} {k' : Int} (hG : G[a]? = some (.inl ci)) (hk : (zkinds ci)[k]? = some 1) (e : (k : Int) = k') : i64 (V a k') := by
  subst e
  exact vr.1 a ci k 1 hG hk
theorem vr_a0 (vr : VR G V) {a n : Nat} {x : Int} (hG : G[a]? = some (.inr (0, n))) (h : 0 ≤ x ∧ x < n) : i32 (V a x) := by
  have := vr.2.1 a 0 n x.toNat hG (by omega)
  rw [show ((x.toNat : Nat) : Int) = x by omega] at this
  exact this
theorem vr_a1 (vr : VR G V) {a n : Nat} {x : Int} (hG : G[a]? = some (.inr (1, n))) (h : 0 ≤ x ∧ x < n) : i64 (V a x) := by
  have := vr.2.1 a 1 n x.toNat hG (by omega)
  rw [show ((x.toNat : Nat) : Int) = x by omega] at this
  exact this
theorem vr_a2 (vr : VR G V) {a n : Nat} {x : Int} (hG : G[a]? = some (.inr (2, n))) (h : 0 ≤ x ∧ x < n) : V a x = 0 ∨ V a x = 1 := by
  have := vr.2.1 a 2 n x.toNat hG (by omega)
  rw [show ((x.toNat : Nat) : Int) = x by omega] at this
  exact this
/-! sums -/
theorem e_add {a b : Int} (h : i32 (a + b)) : (Int32.ofInt a + Int32.ofInt b).toInt = a + b := by rw [z32_add, z32 h.1 h.2]
theorem e_mul {a b : Int} (h : i32 (a * b)) : (Int32.ofInt a * Int32.ofInt b).toInt = a * b := by rw [z32_mul, z32 h.1 h.2]
theorem e_sub {a b : Int} (h : i32 (a - b)) : (Int32.ofInt a - Int32.ofInt b).toInt = a - b := by rw [← Int32.ofInt_sub, z32 h.1 h.2]
theorem e_neg {a : Int} (h : i32 (-a)) : (-Int32.ofInt a).toInt = -a := by rw [← Int32.ofInt_neg, z32 h.1 h.2]
theorem ne_z {b : Int} (h : i32 b) (hb : b ≠ 0) : Int32.ofInt b ≠ 0 := by
  intro q
  have := congrArg Int32.toInt q
  rw [z32 h.1 h.2] at this
  exact hb this
theorem e_div {a b : Int} (ha : 0 ≤ a) (hb : 0 < b) (h1 : i32 a) (h2 : i32 b) : (Int32.ofInt a / Int32.ofInt b).toInt = a / b := by
  rw [Int32.toInt_div, z32 h1.1 h1.2, z32 h2.1 h2.2, Int.tdiv_eq_ediv_of_nonneg ha]
  have h3 : 0 ≤ a / b := Int.ediv_nonneg ha (by omega)
  have h4 : a / b ≤ a := Int.ediv_le_self b ha
  have h5 := h1.2
  rw [Int.bmod_eq_of_le]
  · omega
  · omega
theorem e_rem {a b : Int} (ha : 0 ≤ a) (hb : 0 < b) (h1 : i32 a) (h2 : i32 b) : (Int32.ofInt a - Int32.ofInt a / Int32.ofInt b * Int32.ofInt b).toInt = a % b := by
  have e : Int32.ofInt a / Int32.ofInt b = Int32.ofInt (a / b) := by
    rw [← e_div ha hb h1 h2, Int32.ofInt_toInt]
  rw [e, z32_mul, ← Int32.ofInt_sub]
  have h3 : a - a / b * b = a % b := by
    have := Int.emod_add_mul_ediv a b
    have h4 : b * (a / b) = a / b * b := Int.mul_comm _ _
    omega
  rw [h3, z32]
  · have := Int.emod_nonneg a (show b ≠ 0 by omega)
    omega
  · have := Int.emod_lt_of_pos a hb
    have := h2.2
    omega
def kand (a b : Int) : Int := (Int32.ofInt a &&& Int32.ofInt b).toInt
def kor (a b : Int) : Int := (Int32.ofInt a ||| Int32.ofInt b).toInt
def kshl (a b : Int) : Int := (Int32.ofInt a <<< (Int32.ofInt b &&& 31)).toInt
def kshr (a b : Int) : Int := (Int32.ofInt a >>> (Int32.ofInt b &&& 31)).toInt
def kusr (a b : Int) : Int := ((Int32.ofInt a).toUInt32 >>> ((Int32.ofInt b).toUInt32 &&& Int32.toUInt32 31)).toInt32.toInt
def kadd (a b : Int) : Int := (Int32.ofInt a + Int32.ofInt b).toInt
def kmul (a b : Int) : Int := (Int32.ofInt a * Int32.ofInt b).toInt
def ksub (a b : Int) : Int := (Int32.ofInt a - Int32.ofInt b).toInt
def kneg (a : Int) : Int := (-Int32.ofInt a).toInt
def ki2b (a : Int) : Int := (Int32.ofInt a).toInt8.toInt32.toInt
def ki2s (a : Int) : Int := (Int32.ofInt a).toInt16.toInt32.toInt
def kl2i (a : Int) : Int := (Int64.ofInt a).toInt32.toInt
def jadd (a b : Int) : Int := (Int64.ofInt a + Int64.ofInt b).toInt
def jsub (a b : Int) : Int := (Int64.ofInt a - Int64.ofInt b).toInt
def jmul (a b : Int) : Int := (Int64.ofInt a * Int64.ofInt b).toInt
def jdiv (a b : Int) : Int := (Int64.ofInt a / Int64.ofInt b).toInt
def jrem (a b : Int) : Int := (Int64.ofInt a - Int64.ofInt a / Int64.ofInt b * Int64.ofInt b).toInt
def jneg (a : Int) : Int := (-Int64.ofInt a).toInt
def jand (a b : Int) : Int := (Int64.ofInt a &&& Int64.ofInt b).toInt
def jor (a b : Int) : Int := (Int64.ofInt a ||| Int64.ofInt b).toInt
def jxor (a b : Int) : Int := (Int64.ofInt a ^^^ Int64.ofInt b).toInt
def jshl (a b : Int) : Int := (Int64.ofInt a <<< ((Int32.ofInt b).toInt64 &&& 63)).toInt
def jusr (a b : Int) : Int := ((Int64.ofInt a).toUInt64 >>> ((Int32.ofInt b).toInt64.toUInt64 &&& Int64.toUInt64 63)).toInt64.toInt
theorem t32 (x : Int32) : i32 x.toInt := ⟨by have := Int32.le_toInt x; omega, by have := Int32.toInt_lt x; omega⟩
theorem t64 (x : Int64) : i64 x.toInt := ⟨by have := Int64.le_toInt x; omega, by have := Int64.toInt_lt x; omega⟩
theorem ne_z64 {b : Int} (h : i64 b) (hb : b ≠ 0) : Int64.ofInt b ≠ 0 := by
  intro q
  have := congrArg Int64.toInt q
  rw [Int64.toInt_ofInt_of_le (by have := h.1; omega) (by have := h.2; omega)] at this
  exact hb this
theorem i32_64 {a : Int} (h : i32 a) : i64 a := ⟨by have := h.1; omega, by have := h.2; omega⟩
theorem sg32 (a b : Int) : i32 (sg a b) := by
  unfold sg i32
  split
  · omega
  · split <;> omega
theorem sg_lt {a b : Int} : sg a b < 0 ↔ a < b := by
  unfold sg
  split
  · omega
  · split <;> omega
theorem sg_gt {a b : Int} : 0 < sg a b ↔ b < a := by
  unfold sg
  split
  · omega
  · split <;> omega
theorem sg_eq {a b : Int} : sg a b = 0 ↔ a = b := by
  unfold sg
  split
  · omega
  · split <;> omega
/-! locals -/
def gLS (L' L : gL) : Prop := ∀ (i : Nat) (v : zV), L'[i]? = some (some v) → L[i]? = some (some v)
theorem wk_0 {L : gL} : gLS [] L := fun i v h => by simp at h
theorem wk_n {L' L : gL} {a : Option zV} (h : gLS L' L) : gLS (none :: L') (a :: L) := by
  intro i v e
  match i with
  | 0 => simp at e
  | i + 1 => exact h i v e
theorem wk_s {L' L : gL} {a : Option zV} (h : gLS L' L) : gLS (a :: L') (a :: L) := by
  intro i v e
  match i with
  | 0 => exact e
  | i + 1 => exact h i v e
def largs : List zV → gL
  | [] => []
  | v :: r => some v :: cond (Nat.beq (zcat v) 2) (none :: largs r) (largs r)
theorem LR_args0 : ∀ (as : List zV) (i j : Nat) (v : zV), (largs as)[j]? = some (some v) → zget (zargs as i) (i + j) = some v := by
  intro as
  induction as with
  | nil => intro i j v h; simp [largs] at h
  | cons a r ih =>
    intro i j v h
    have e : zargs (a :: r) i = (i, a) :: zargs r (cond (Nat.beq (zcat a) 2) (i + 2) (i + 1)) := rfl
    rw [e, zget_cons]
    match j with
    | 0 =>
      simp [largs] at h
      simp [h]
    | j + 1 =>
      have e1 : Nat.beq i (i + (j + 1)) = false := by
        cases hb : Nat.beq i (i + (j + 1)) with
        | false => rfl
        | true => have := Nat.eq_of_beq_eq_true hb; omega
      rw [show (i, a).1 = i from rfl, e1, cond_false]
      cases hc : Nat.beq (zcat a) 2 with
      | true =>
        simp only [largs, hc, cond_true] at h
        match j with
        | 0 => simp at h
        | j + 1 =>
          have h' : (largs r)[j]? = some (some v) := by simpa using h
          have := ih (i + 2) j v h'
          rw [show i + 2 + j = i + (j + 1 + 1) by omega] at this
          exact this
      | false =>
        simp only [largs, hc, cond_false] at h
        have h' : (largs r)[j]? = some (some v) := by simpa using h
        have := ih (i + 1) j v h'
        rw [show i + 1 + j = i + (j + 1) by omega] at this
        exact this
theorem LR_args (as : List zV) : LR (zargs as 0) (largs as) := fun i v h => by
  have := LR_args0 as 0 i v h
  rw [Nat.zero_add] at this
  exact this
/-! switches, answers -/
theorem wp_tsw {dfl lo hi a : Int} {offs : Array Int} (j : Nat) (t : Nat) {off : Int} (hp : Nat.blt pc 512 = true) (hc : K.1 pc = some (.tableswitch dfl lo hi offs)) (ha : i32 a) (hj : a = lo + j) (hh : a ≤ hi) (ho : offs[j]? = some off) (ht : (pc : Int) + off = (t : Int)) (nx : wp K d Q t L st G R V) : wp K d Q pc L ((0, a) :: st) G R V := by
  refine wp_p hp hc (fun call h ls => ?_) nx
  show hd_table zb0 dfl lo hi offs pc ls ((0, a) :: st) h = _
  unfold hd_table
  simp only [zfI_eq, z32 ha.1 ha.2]
  have e1 : decide (a < lo) = false := decide_eq_false (by omega)
  have e2 : decide (hi < a) = false := decide_eq_false (by omega)
  have e3 : (a - lo).toNat = j := by omega
  rw [e1, e2, e3, ho]
  simp only [Bool.or_self, cond_false]
  unfold zjmp
  rw [ht]
theorem wp_tsd {dfl lo hi a : Int} {offs : Array Int} (t : Nat) (hp : Nat.blt pc 512 = true) (hc : K.1 pc = some (.tableswitch dfl lo hi offs)) (ha : i32 a) (hh : a < lo ∨ hi < a) (ht : (pc : Int) + dfl = (t : Int)) (nx : wp K d Q t L st G R V) : wp K d Q pc L ((0, a) :: st) G R V := by
  refine wp_p hp hc (fun call h ls => ?_) nx
  show hd_table zb0 dfl lo hi offs pc ls ((0, a) :: st) h = _
  unfold hd_table
  simp only [zfI_eq, z32 ha.1 ha.2]
  have e1 : (decide (a < lo) || decide (hi < a)) = true := by
    rcases hh with h | h
    · simp [h]
    · simp [h]
  rw [e1, cond_true]
  unfold zjmp
  rw [ht]
end
section
variable {K : gK} {d : Nat} {P : gP} {pc : Nat} {L : gL} {G : List gS} {R V : gV}
theorem wp_rI {v : Int} (hp : Nat.blt pc 512 = true) (hc : K.1 pc = some .ireturn) (hk : K.2.2.2.1 = 1) (w : P (some (0, v)) V) : wpv K d P pc L [(0, v)] G R V := wp_ret (w := 0) hp hc rfl (fun _ _ _ => rfl) (fun _ _ _ => by rw [hk]; rfl) ⟨rfl, rfl, w⟩
theorem wp_rB {v : Int} (hp : Nat.blt pc 512 = true) (hc : K.1 pc = some .ireturn) (hk : K.2.2.2.1 = 2) (hb : v = 0 ∨ v = 1) (w : P (some (0, v)) V) : wpv K d P pc L [(0, v)] G R V := wp_ret (w := 0) hp hc rfl (fun _ _ _ => rfl) (fun _ _ _ => by rw [hk]; simp only [hd_ret, zbit_c hb, cond_true]) ⟨rfl, rfl, w⟩
theorem wp_rJ {v : Int} (hp : Nat.blt pc 512 = true) (hc : K.1 pc = some .lreturn) (hk : K.2.2.2.1 = 3) (w : P (some (2, v)) V) : wpv K d P pc L [(2, v)] G R V := wp_ret (w := 1) hp hc rfl (fun _ _ _ => rfl) (fun _ _ _ => by rw [hk]; rfl) ⟨rfl, rfl, w⟩
theorem wp_r0 (hp : Nat.blt pc 512 = true) (hc : K.1 pc = some .return_) (hk : K.2.2.2.1 = 0) (w : P none V) : wpv K d P pc L [] G R V := wp_ret (w := 3) hp hc rfl (fun _ _ _ => rfl) (fun _ _ _ => by rw [hk]; rfl) ⟨rfl, rfl, w⟩
theorem loopI {α : Type} {f : α → gL} {g : α → gV} (Inv : α → Prop) (μ : α → Nat) (H : ∀ x, Inv x → (∀ y, Inv y → μ y < μ x → wpv K d P pc (f y) [] G R (g y)) → wpv K d P pc (f x) [] G R (g x)) : ∀ x, Inv x → wpv K d P pc (f x) [] G R (g x) := by
  have : ∀ n x, μ x = n → Inv x → wpv K d P pc (f x) [] G R (g x) := by
    intro n
    induction n using Nat.strongRecOn with
    | _ n ih =>
      intro x hx hi
      exact H x hi (fun y hy hm => ih (μ y) (by omega) y rfl hy)
  exact fun x hi => this _ x rfl hi
end
def cpy (V : gV) (s : Nat) (sp : Int) (t : Nat) (tp n : Int) : gV := fun a i => if a = t ∧ tp ≤ i ∧ i < tp + n then V s (sp + (i - tp)) else V a i
section
variable {K : gK} {d : Nat} {Q : gQ} {pc : Nat} {L : gL} {st : List zV} {G : List gS} {R V : gV}
theorem HR_cpy {h : zH} (hh : HR h G R V) {s t n0 n1 : Nat} {f f2 : Nat → zV} (sp tp n : Nat) (hs : G[s]? = some (.inr (1, n0))) (ht : G[t]? = some (.inr (1, n1))) (qs : h[s]? = some (.inr (1, n0, f))) (qt : h[t]? = some (.inr (1, n1, f2))) (b0 : sp + n ≤ n0) (b1 : tp + n ≤ n1) : HR (zset h (.inr (1, n1, zcpy f f2 sp tp n)) t) G R (cpy V s sp t tp n) := by
  obtain ⟨h0, h1, h2, ⟨h3, h4, h6⟩, h5⟩ := hh
  have hne : ∀ (a' : Nat) (i' : Int), a' ≠ t → cpy V s sp t tp n a' i' = V a' i' := fun a' i' q => by
    unfold cpy
    rw [if_neg (fun z => q z.1)]
  rw [zset_eq]
  refine ⟨by rw [List.length_set]; exact h0, ?_, ?_, ⟨?_, ?_, h6⟩, ?_⟩
  · intro a' ci' g
    have e : a' ≠ t := by
      intro z
      subst z
      rw [ht] at g
      cases g
    obtain ⟨fs', q1, q2, q3⟩ := h1 a' ci' g
    refine ⟨fs', by rw [List.getElem?_set_ne (fun z => e z.symm)]; exact q1, q2, ?_⟩
    intro k' t' hk'
    rw [q3 k' t' hk']
    unfold en
    rw [hne a' (k' : Int) e]
  · intro a' ty' n' g
    obtain ⟨f', q1, q2⟩ := h2 a' ty' n' g
    by_cases e : a' = t
    · subst e
      rw [ht] at g
      cases g
      rw [qt] at q1
      cases q1
      refine ⟨zcpy f f2 sp tp n, by rw [List.getElem?_set_self (getE_lt qt)], ?_⟩
      intro i hi
      obtain ⟨f'', q3, q4⟩ := h2 s 1 n0 hs
      rw [qs] at q3
      cases q3
      unfold zcpy
      by_cases c1 : tp ≤ i
      · rw [Nat.ble_eq_true_of_le c1, cond_true]
        by_cases c2 : i < tp + n
        · have b2 : Nat.blt i (tp + n) = true := Nat.ble_eq_true_of_le c2
          rw [b2, cond_true, q4 _ (by omega)]
          show ((2 : Nat), V s _) = (2, cpy V s sp a' tp n a' i)
          unfold cpy
          rw [if_pos ⟨rfl, by omega, by omega⟩]
          rw [show ((sp + (i - tp) : Nat) : Int) = (sp : Int) + ((i : Int) - tp) by omega]
        · have b2 : Nat.blt i (tp + n) = false := by
            cases hb : Nat.blt i (tp + n) with
            | false => rfl
            | true => exact absurd (Nat.le_of_ble_eq_true hb) c2
          rw [b2, cond_false, q2 i hi]
          show ((2 : Nat), V a' i) = (2, cpy V s sp a' tp n a' i)
          unfold cpy
          rw [if_neg (fun z => by omega)]
      · have b2 : Nat.ble tp i = false := by
          cases hb : Nat.ble tp i with
          | false => rfl
          | true => exact absurd (Nat.le_of_ble_eq_true hb) c1
        rw [b2, cond_false, q2 i hi]
        show ((2 : Nat), V a' i) = (2, cpy V s sp a' tp n a' i)
        unfold cpy
        rw [if_neg (fun z => by omega)]
    · refine ⟨f', by rw [List.getElem?_set_ne (fun z => e z.symm)]; exact q1, ?_⟩
      intro i hi
      rw [q2 i hi]
      unfold ea
      rw [hne a' (i : Int) e]
  · intro a' ci' k' t' g hk'
    have e : a' ≠ t := by
      intro z
      subst z
      rw [ht] at g
      cases g
    rw [hne a' k' e]
    exact h3 a' ci' k' t' g hk'
  · intro a' ty' n' i g hi
    by_cases e : a' = t
    · subst e
      rw [ht] at g
      cases g
      unfold cpy
      split
      next z =>
        have := h4 s 1 n0 (sp + (i - tp)) hs (by omega)
        rw [show ((sp + (i - tp) : Nat) : Int) = (sp : Int) + ((i : Int) - tp) by omega] at this
        exact this
      next => exact h4 a' 1 n1 i ht hi
    · rw [hne a' i e]
      exact h4 a' ty' n' i g hi
  · intro a' i' hl
    have e : a' ≠ t := by
      intro z
      subst z
      have := getE_lt ht
      omega
    rw [hne a' i' e]
    exact h5 a' i' hl
theorem wp_copy {x y s t n0 n1 : Nat} {sp tp n : Int} (hp : Nat.blt pc 512 = true) (hc : K.1 pc = some (.invokestatic x)) (ho : zml K.2.1 x = some (7, y)) (hz : zsum st ≤ 8) (hs : G[s]? = some (.inr (1, n0))) (ht : G[t]? = some (.inr (1, n1))) (hb : 0 ≤ n ∧ 0 ≤ tp ∧ 0 ≤ sp ∧ sp + n ≤ n0 ∧ tp + n ≤ n1) (nx : wp K d Q (pc + 3) L st G R (cpy V s sp t tp n)) : wp K d Q pc L ((0, n) :: (0, tp) :: (4, (t : Int)) :: (0, sp) :: (4, (s : Int)) :: st) G R V := by
  obtain ⟨c1, c2, c3, c4, c5⟩ := hb
  refine wp_s hp hc (fun h ls hh hl => ?_) nx
  obtain ⟨f, q1, _⟩ := hh.2.2.1 s 1 n0 hs
  obtain ⟨f2, q2, _⟩ := hh.2.2.1 t 1 n1 ht
  have l0 := (hh.2.2.2.1.2.2 s 1 n0 hs).1
  have l1 := (hh.2.2.2.1.2.2 t 1 n1 ht).1
  have m := HR_cpy hh sp.toNat tp.toNat n.toNat hs ht q1 q2 (by omega) (by omega)
  rw [Int.toNat_of_nonneg c1, Int.toNat_of_nonneg c2, Int.toNat_of_nonneg c3] at m
  refine ⟨_, ls, m, hl, fun F d' => ?_⟩
  show hd_stat (zexec zb0 F d') zna (zml K.2.1 x) pc ls ((0, n) :: (0, tp) :: (4, (t : Int)) :: (0, sp) :: (4, (s : Int)) :: st) h = _
  have e1 : (Int32.ofInt n).toInt = Int.ofNat n.toNat := by rw [z32 (by omega) (by omega)]; exact (Int.toNat_of_nonneg c1).symm
  have e2 : (Int32.ofInt tp).toInt = Int.ofNat tp.toNat := by rw [z32 (by omega) (by omega)]; exact (Int.toNat_of_nonneg c2).symm
  have e3 : (Int32.ofInt sp).toInt = Int.ofNat sp.toNat := by rw [z32 (by omega) (by omega)]; exact (Int.toNat_of_nonneg c3).symm
  have b0 : Nat.ble (zsum st) 8 = true := Nat.ble_eq_true_of_le hz
  have b1 : Nat.ble (sp.toNat + n.toNat) n0 = true := Nat.ble_eq_true_of_le (by omega)
  have b2 : Nat.ble (tp.toNat + n.toNat) n1 = true := Nat.ble_eq_true_of_le (by omega)
  rw [← znth_eq] at q1 q2
  unfold hd_stat
  simp only [ho]
  unfold hd_copy
  simp only [Int.toNat_natCast, q1, q2, e1, e2, e3, zfN_eq, b0, b1, b2, Bool.and_self, cond_true]
end
section
variable {K : gK} {d : Nat} {Q : gQ} {pc : Nat} {L : gL} {st : List zV} {G : List gS} {R V : gV}
theorem wp_kand {a b : Int} (hp : Nat.blt pc 512 = true) (hc : K.1 pc = some .iand) (nx : wp K d Q (pc + 1) L ((0, kand a b) :: st) G R V) : wp K d Q pc L ((0, b) :: (0, a) :: st) G R V := wp_bin (f := fun x y => x &&& y) hp hc (fun _ => rfl) rfl nx
theorem wp_kor {a b : Int} (hp : Nat.blt pc 512 = true) (hc : K.1 pc = some .ior) (nx : wp K d Q (pc + 1) L ((0, kor a b) :: st) G R V) : wp K d Q pc L ((0, b) :: (0, a) :: st) G R V := wp_bin (f := fun x y => x ||| y) hp hc (fun _ => rfl) rfl nx
theorem wp_kshl {a b : Int} (hp : Nat.blt pc 512 = true) (hc : K.1 pc = some .ishl) (nx : wp K d Q (pc + 1) L ((0, kshl a b) :: st) G R V) : wp K d Q pc L ((0, b) :: (0, a) :: st) G R V := wp_bin (f := fun x y => x <<< (y &&& 31)) hp hc (fun _ => rfl) rfl nx
theorem wp_kshr {a b : Int} (hp : Nat.blt pc 512 = true) (hc : K.1 pc = some .ishr) (nx : wp K d Q (pc + 1) L ((0, kshr a b) :: st) G R V) : wp K d Q pc L ((0, b) :: (0, a) :: st) G R V := wp_bin (f := fun x y => x >>> (y &&& 31)) hp hc (fun _ => rfl) rfl nx
theorem wp_kusr {a b : Int} (hp : Nat.blt pc 512 = true) (hc : K.1 pc = some .iushr) (nx : wp K d Q (pc + 1) L ((0, kusr a b) :: st) G R V) : wp K d Q pc L ((0, b) :: (0, a) :: st) G R V := wp_bin (f := fun x y => (x.toUInt32 >>> (y.toUInt32 &&& Int32.toUInt32 31)).toInt32) hp hc (fun _ => rfl) rfl nx
theorem wp_kadd {a b : Int} (hp : Nat.blt pc 512 = true) (hc : K.1 pc = some .iadd) (nx : wp K d Q (pc + 1) L ((0, kadd a b) :: st) G R V) : wp K d Q pc L ((0, b) :: (0, a) :: st) G R V := wp_bin (f := fun x y => x + y) hp hc (fun _ => rfl) rfl nx
theorem wp_ksub {a b : Int} (hp : Nat.blt pc 512 = true) (hc : K.1 pc = some .isub) (nx : wp K d Q (pc + 1) L ((0, ksub a b) :: st) G R V) : wp K d Q pc L ((0, b) :: (0, a) :: st) G R V := wp_bin (f := fun x y => x - y) hp hc (fun _ => rfl) rfl nx
theorem wp_kmul {a b : Int} (hp : Nat.blt pc 512 = true) (hc : K.1 pc = some .imul) (nx : wp K d Q (pc + 1) L ((0, kmul a b) :: st) G R V) : wp K d Q pc L ((0, b) :: (0, a) :: st) G R V := wp_bin (f := fun x y => x * y) hp hc (fun _ => rfl) rfl nx
theorem wp_kneg {a : Int} (hp : Nat.blt pc 512 = true) (hc : K.1 pc = some .ineg) (nx : wp K d Q (pc + 1) L ((0, kneg a) :: st) G R V) : wp K d Q pc L ((0, a) :: st) G R V := wp_un (f := fun x => -x) hp hc (fun _ => rfl) rfl nx
theorem wp_ki2b {a : Int} (hp : Nat.blt pc 512 = true) (hc : K.1 pc = some .i2b) (nx : wp K d Q (pc + 1) L ((0, ki2b a) :: st) G R V) : wp K d Q pc L ((0, a) :: st) G R V := wp_un (f := fun x => x.toInt8.toInt32) hp hc (fun _ => rfl) rfl nx
theorem wp_ki2s {a : Int} (hp : Nat.blt pc 512 = true) (hc : K.1 pc = some .i2s) (nx : wp K d Q (pc + 1) L ((0, ki2s a) :: st) G R V) : wp K d Q pc L ((0, a) :: st) G R V := wp_un (f := fun x => x.toInt16.toInt32) hp hc (fun _ => rfl) rfl nx
theorem wp_jadd {a b : Int} (hp : Nat.blt pc 512 = true) (hc : K.1 pc = some .ladd) (nx : wp K d Q (pc + 1) L ((2, jadd a b) :: st) G R V) : wp K d Q pc L ((2, b) :: (2, a) :: st) G R V := wp_lbin (f := fun x y => x + y) hp hc (fun _ => rfl) rfl nx
theorem wp_jsub {a b : Int} (hp : Nat.blt pc 512 = true) (hc : K.1 pc = some .lsub) (nx : wp K d Q (pc + 1) L ((2, jsub a b) :: st) G R V) : wp K d Q pc L ((2, b) :: (2, a) :: st) G R V := wp_lbin (f := fun x y => x - y) hp hc (fun _ => rfl) rfl nx
theorem wp_jmul {a b : Int} (hp : Nat.blt pc 512 = true) (hc : K.1 pc = some .lmul) (nx : wp K d Q (pc + 1) L ((2, jmul a b) :: st) G R V) : wp K d Q pc L ((2, b) :: (2, a) :: st) G R V := wp_lbin (f := fun x y => x * y) hp hc (fun _ => rfl) rfl nx
theorem wp_jand {a b : Int} (hp : Nat.blt pc 512 = true) (hc : K.1 pc = some .land) (nx : wp K d Q (pc + 1) L ((2, jand a b) :: st) G R V) : wp K d Q pc L ((2, b) :: (2, a) :: st) G R V := wp_lbin (f := fun x y => x &&& y) hp hc (fun _ => rfl) rfl nx
theorem wp_jor {a b : Int} (hp : Nat.blt pc 512 = true) (hc : K.1 pc = some .lor) (nx : wp K d Q (pc + 1) L ((2, jor a b) :: st) G R V) : wp K d Q pc L ((2, b) :: (2, a) :: st) G R V := wp_lbin (f := fun x y => x ||| y) hp hc (fun _ => rfl) rfl nx
theorem wp_jxor {a b : Int} (hp : Nat.blt pc 512 = true) (hc : K.1 pc = some .lxor) (nx : wp K d Q (pc + 1) L ((2, jxor a b) :: st) G R V) : wp K d Q pc L ((2, b) :: (2, a) :: st) G R V := wp_lbin (f := fun x y => x ^^^ y) hp hc (fun _ => rfl) rfl nx
theorem wp_jdiv {a b : Int} (hp : Nat.blt pc 512 = true) (hc : K.1 pc = some .ldiv) (h1 : i64 b) (h2 : b ≠ 0) (nx : wp K d Q (pc + 1) L ((2, jdiv a b) :: st) G R V) : wp K d Q pc L ((2, b) :: (2, a) :: st) G R V := wp_ldiv (f := fun x y => x / y) hp hc (fun _ => rfl) (ne_z64 h1 h2) rfl nx
theorem wp_jrem {a b : Int} (hp : Nat.blt pc 512 = true) (hc : K.1 pc = some .lrem) (h1 : i64 b) (h2 : b ≠ 0) (nx : wp K d Q (pc + 1) L ((2, jrem a b) :: st) G R V) : wp K d Q pc L ((2, b) :: (2, a) :: st) G R V := wp_ldiv (f := fun x y => x - x / y * y) hp hc (fun _ => rfl) (ne_z64 h1 h2) rfl nx
theorem wp_jneg {a : Int} (hp : Nat.blt pc 512 = true) (hc : K.1 pc = some .lneg) (nx : wp K d Q (pc + 1) L ((2, jneg a) :: st) G R V) : wp K d Q pc L ((2, a) :: st) G R V := wp_lun (f := fun x => -x) hp hc (fun _ => rfl) rfl nx
theorem wp_jshl {a b : Int} (hp : Nat.blt pc 512 = true) (hc : K.1 pc = some .lshl) (nx : wp K d Q (pc + 1) L ((2, jshl a b) :: st) G R V) : wp K d Q pc L ((0, b) :: (2, a) :: st) G R V := wp_lsh (f := fun x y => x <<< (y.toInt64 &&& 63)) hp hc (fun _ => rfl) rfl nx
theorem wp_jusr {a b : Int} (hp : Nat.blt pc 512 = true) (hc : K.1 pc = some .lushr) (nx : wp K d Q (pc + 1) L ((2, jusr a b) :: st) G R V) : wp K d Q pc L ((0, b) :: (2, a) :: st) G R V := wp_lsh (f := fun x y => (x.toUInt64 >>> (y.toInt64.toUInt64 &&& Int64.toUInt64 63)).toInt64) hp hc (fun _ => rfl) rfl nx
theorem wp_kl2i {a : Int} (hp : Nat.blt pc 512 = true) (hc : K.1 pc = some .l2i) (nx : wp K d Q (pc + 1) L ((0, kl2i a) :: st) G R V) : wp K d Q pc L ((2, a) :: st) G R V := wp_l2i hp hc nx
theorem wp_xadd {a b : Int} (hp : Nat.blt pc 512 = true) (hc : K.1 pc = some .iadd) (h : i32 (a + b)) (nx : wp K d Q (pc + 1) L ((0, a + b) :: st) G R V) : wp K d Q pc L ((0, b) :: (0, a) :: st) G R V := wp_bin (f := fun x y => x + y) hp hc (fun _ => rfl) (e_add h) nx
theorem wp_xsub {a b : Int} (hp : Nat.blt pc 512 = true) (hc : K.1 pc = some .isub) (h : i32 (a - b)) (nx : wp K d Q (pc + 1) L ((0, a - b) :: st) G R V) : wp K d Q pc L ((0, b) :: (0, a) :: st) G R V := wp_bin (f := fun x y => x - y) hp hc (fun _ => rfl) (e_sub h) nx
theorem wp_xmul {a b : Int} (hp : Nat.blt pc 512 = true) (hc : K.1 pc = some .imul) (h : i32 (a * b)) (nx : wp K d Q (pc + 1) L ((0, a * b) :: st) G R V) : wp K d Q pc L ((0, b) :: (0, a) :: st) G R V := wp_bin (f := fun x y => x * y) hp hc (fun _ => rfl) (e_mul h) nx
theorem wp_xdiv {a b : Int} (hp : Nat.blt pc 512 = true) (hc : K.1 pc = some .idiv) (h : 0 ≤ a) (h2 : 0 < b) (ha : i32 a) (hb : i32 b) (nx : wp K d Q (pc + 1) L ((0, a / b) :: st) G R V) : wp K d Q pc L ((0, b) :: (0, a) :: st) G R V := wp_div (f := fun x y => x / y) hp hc (fun _ => rfl) (ne_z hb (by omega)) (e_div h h2 ha hb) nx
theorem wp_xrem {a b : Int} (hp : Nat.blt pc 512 = true) (hc : K.1 pc = some .irem) (h : 0 ≤ a) (h2 : 0 < b) (ha : i32 a) (hb : i32 b) (nx : wp K d Q (pc + 1) L ((0, a % b) :: st) G R V) : wp K d Q pc L ((0, b) :: (0, a) :: st) G R V := wp_div (f := fun x y => x - x / y * y) hp hc (fun _ => rfl) (ne_z hb (by omega)) (e_rem h h2 ha hb) nx
end
section
variable {K : gK} {d : Nat} {Q : gQ} {pc : Nat} {L : gL} {st : List zV} {G : List gS} {R V : gV}
theorem wp_getIe {x a ci k : Nat} {k' c : Int} (hp : Nat.blt pc 512 = true) (hc : K.1 pc = some (.getfield x)) (ho : zfl K.2.1 x = some (ci, k)) (hG : G[a]? = some (.inl ci)) (hk : (zkinds ci)[k]? = some 0) (e : (k : Int) = k') (hv : V a k' = c) (nx : wp K d Q (pc + 3) L ((0, c) :: st) G R V) : wp K d Q pc L ((4, (a : Int)) :: st) G R V := by
  subst hv
  exact wp_getI hp hc ho hG hk e nx
theorem wp_getJe {x a ci k : Nat} {k' c : Int} (hp : Nat.blt pc 512 = true) (hc : K.1 pc = some (.getfield x)) (ho : zfl K.2.1 x = some (ci, k)) (hG : G[a]? = some (.inl ci)) (hk : (zkinds ci)[k]? = some 1) (e : (k : Int) = k') (hv : V a k' = c) (nx : wp K d Q (pc + 3) L ((2, c) :: st) G R V) : wp K d Q pc L ((4, (a : Int)) :: st) G R V := by
  subst hv
  exact wp_getJ hp hc ho hG hk e nx
theorem wp_aIe {a n : Nat} {x c : Int} (hp : Nat.blt pc 512 = true) (hc : K.1 pc = some .iaload) (hG : G[a]? = some (.inr (0, n))) (h : 0 ≤ x ∧ x < n) (hv : V a x = c) (nx : wp K d Q (pc + 1) L ((0, c) :: st) G R V) : wp K d Q pc L ((0, x) :: (4, (a : Int)) :: st) G R V := by
  subst hv
  exact wp_aI hp hc hG h nx
theorem wp_aJe {a n : Nat} {x c : Int} (hp : Nat.blt pc 512 = true) (hc : K.1 pc = some .laload) (hG : G[a]? = some (.inr (1, n))) (h : 0 ≤ x ∧ x < n) (hv : V a x = c) (nx : wp K d Q (pc + 1) L ((2, c) :: st) G R V) : wp K d Q pc L ((0, x) :: (4, (a : Int)) :: st) G R V := by
  subst hv
  exact wp_aJ hp hc hG h nx
theorem wp_aBe {a n : Nat} {x c : Int} (hp : Nat.blt pc 512 = true) (hc : K.1 pc = some .baload) (hG : G[a]? = some (.inr (2, n))) (h : 0 ≤ x ∧ x < n) (hv : V a x = c) (nx : wp K d Q (pc + 1) L ((0, c) :: st) G R V) : wp K d Q pc L ((0, x) :: (4, (a : Int)) :: st) G R V := by
  subst hv
  exact wp_aB hp hc hG h nx
end
