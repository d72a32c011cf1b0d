/-! typed heaps: what every cell may hold -/
abbrev gT : Type := Nat → Int → Int → Prop
def TH (T : gT) (V : gV) : Prop := ∀ c i, T c i (V c i)
theorem TH_wr {T : gT} {V : gV} (h : TH T V) {c : Nat} {i v : Int} (w : T c i v) : TH T (wr V c i v) := by
  intro c' i'
  unfold wr
  split
  · rename_i q
    rw [q.1, q.2]
    exact w
  · exact h c' i'
theorem TH_cpy {T : gT} {V : gV} (h : TH T V) {s t : Nat} {sp tp n : Int} (w : ∀ i v, T t i v) : TH T (cpy V s sp t tp n) := by
  intro c' i'
  unfold cpy
  split
  · rename_i q
    rw [q.1]
    exact w _ _
  · exact h c' i'
abbrev pI (d : Nat) (lo hi : Int) (y : Nat) (as : List zV) (G : List gS) (R V : gV) : Prop := cwv d (fun r V' => ∃ v : Int, r = some (0, v) ∧ (lo ≤ v ∧ v ≤ hi) ∧ V' = V) y as G R V
abbrev pJ (d : Nat) (y : Nat) (as : List zV) (G : List gS) (R V : gV) : Prop := cwv d (fun r V' => ∃ v : Int, r = some (2, v) ∧ i64 v ∧ V' = V) y as G R V
abbrev wI (T : gT) (d : Nat) (lo hi : Int) (y : Nat) (as : List zV) (G : List gS) (R V : gV) : Prop := cwv d (fun r V' => ∃ v : Int, r = some (0, v) ∧ (lo ≤ v ∧ v ≤ hi) ∧ TH T V') y as G R V
abbrev wJ (T : gT) (d : Nat) (y : Nat) (as : List zV) (G : List gS) (R V : gV) : Prop := cwv d (fun r V' => ∃ v : Int, r = some (2, v) ∧ i64 v ∧ TH T V') y as G R V
abbrev w0 (T : gT) (d : Nat) (y : Nat) (as : List zV) (G : List gS) (R V : gV) : Prop := cwv d (fun r V' => r = none ∧ TH T V') y as G R V
section
variable {d d2 : Nat} {y : Nat} {as : List zV} {G : List gS} {R V : gV} {lo hi : Int} {T : gT}
theorem pI_u {X : Int → gV → Prop} (w : pI d lo hi y as G R V) (x : ∀ v, lo ≤ v ∧ v ≤ hi → X v V) (hd : d ≤ d2 := by omega) : cwv d2 (fun r V' => ∃ v' : Int, r = some (0, v') ∧ X v' V') y as G R V := cwv_mono hd w (fun r V' h => by obtain ⟨v, h1, h2, h3⟩ := h; rw [h3]; exact ⟨v, h1, x v h2⟩)
theorem pJ_u {X : Int → gV → Prop} (w : pJ d y as G R V) (x : ∀ v, i64 v → X v V) (hd : d ≤ d2 := by omega) : cwv d2 (fun r V' => ∃ v' : Int, r = some (2, v') ∧ X v' V') y as G R V := cwv_mono hd w (fun r V' h => by obtain ⟨v, h1, h2, h3⟩ := h; rw [h3]; exact ⟨v, h1, x v h2⟩)
theorem wI_u {X : Int → gV → Prop} (w : wI T d lo hi y as G R V) (x : ∀ v V', lo ≤ v ∧ v ≤ hi → TH T V' → X v V') (hd : d ≤ d2 := by omega) : cwv d2 (fun r V' => ∃ v' : Int, r = some (0, v') ∧ X v' V') y as G R V := cwv_mono hd w (fun r V' h => by obtain ⟨v, h1, h2, h3⟩ := h; exact ⟨v, h1, x v V' h2 h3⟩)
theorem wJ_u {X : Int → gV → Prop} (w : wJ T d y as G R V) (x : ∀ v V', i64 v → TH T V' → X v V') (hd : d ≤ d2 := by omega) : cwv d2 (fun r V' => ∃ v' : Int, r = some (2, v') ∧ X v' V') y as G R V := cwv_mono hd w (fun r V' h => by obtain ⟨v, h1, h2, h3⟩ := h; exact ⟨v, h1, x v V' h2 h3⟩)
theorem w0_u {X : gV → Prop} (w : w0 T d y as G R V) (x : ∀ V', TH T V' → X V') (hd : d ≤ d2 := by omega) : cwv d2 (fun r V' => r = none ∧ X V') y as G R V := cwv_mono hd w (fun r V' h => ⟨h.1, x V' h.2⟩)
theorem bI_u {v : Int} {X : Int → gV → Prop} (w : cpI d v y as G R V) (x : X v V) (hd : d ≤ d2 := by omega) : cwv d2 (fun r V' => ∃ v' : Int, r = some (0, v') ∧ X v' V') y as G R V := cpI_u hd w x
/-- what the heap keeps may be used before a call -/
theorem cw_vr {Q : gQ} (w : VR G V → cw d Q y as G R V) : cw d Q y as G R V := fun h hh => w hh.2.2.2.1 h hh
theorem cw_fr {Q : gQ} (w : VR G V → (∀ (a : Nat) (i : Int), G.length ≤ a → V a i = 0 ∧ R a i = -1) → cw d Q y as G R V) : cw d Q y as G R V := fun h hh => w hh.2.2.2.1 hh.2.2.2.2 h hh
end
theorem and7 (a : Int) : 0 ≤ kand a 7 ∧ kand a 7 ≤ 7 := by
  unfold kand
  have h1 : (Int32.ofInt a &&& Int32.ofInt 7).toInt = (((Int32.ofInt a).toBitVec &&& 7#32).toNat : Int) := by
    have e : (Int32.ofInt a &&& Int32.ofInt 7).toInt = ((Int32.ofInt a).toBitVec &&& 7#32).toInt := rfl
    rw [e, BitVec.toInt_eq_toNat_of_lt]
    have : ((Int32.ofInt a).toBitVec &&& 7#32).toNat ≤ 7 := by rw [BitVec.toNat_and]; exact Nat.and_le_right
    omega
  have h2 : ((Int32.ofInt a).toBitVec &&& 7#32).toNat ≤ 7 := by rw [BitVec.toNat_and]; exact Nat.and_le_right
  omega
section
variable {G : List gS} {R V : gV}
theorem isWay_c {a : Int} (ha : i32 a) : pI 1 0 1 140 [(0, a)] G R V :=
  c_X7_isWay (t_X7_isWay_0 ⟨ha, fun _ => ⟨1, rfl, by omega, rfl⟩, fun _ => ⟨fun _ => ⟨0, rfl, by omega, rfl⟩, fun _ => ⟨1, rfl, by omega, rfl⟩⟩⟩)
theorem isActNumber_c {a : Int} (ha : i32 a) : cpI 1 (bi (0 ≤ a ∧ a < 8)) 141 [(0, a)] G R V :=
  c_X7_isActNumber (t_X7_isActNumber_0 ⟨ha, fun h => ⟨by rw [bi_f (by omega)], rfl⟩, fun h => ⟨fun h2 => ⟨by rw [bi_f (by omega)], rfl⟩, fun h2 => ⟨by rw [bi_t (by omega)], rfl⟩⟩⟩)
theorem whereTo_c {c p : Int} (hp : 0 ≤ p ∧ p ≤ 7) : pI 1 0 7 147 [(0, c), (0, p)] G R V :=
  c_X7_whereTo (t_X7_whereTo_0 ⟨by omega, by omega, _, rfl, and7 _, rfl⟩)
theorem oneBehindOther_c {s t : Int} : pI 2 (-2147483648) 2147483647 148 [(0, s), (0, t)] G R V := by
  refine c_X7_oneBehindOther (t_X7_oneBehindOther_0 ?_)
  refine pool2 (f := fun x y => [some (0, s), some (0, t), some (0, x), some (0, y)]) (Inv := fun x y => i32 x ∧ 0 ≤ y ∧ y ≤ 8) (μ := fun _ y => (8 - y).toNat) (fun x y h ih => ?_) 0 0 (by omega)
  refine t_X7_oneBehindOther_4 ⟨by omega, fun c => ⟨x, rfl, by omega, rfl⟩, fun c => ?_⟩
  refine pI_u (whereTo_c (by omega)) (fun v hv => pI_u (whereTo_c (by omega)) (fun w hw => ⟨by omega, ih _ _ ⟨t32 _, by omega, by omega⟩ (by omega)⟩))
theorem holds_c {a b t : Int} (ht : i32 t) : pI 1 0 1 149 [(2, a), (2, b), (0, t)] G R V :=
  c_X7_holds (t_X7_holds_0 ⟨ht, fun _ => ⟨fun _ => ⟨0, rfl, by omega, rfl⟩, fun _ => ⟨1, rfl, by omega, rfl⟩⟩, fun _ => ⟨fun _ => ⟨0, rfl, by omega, rfl⟩, fun _ => ⟨1, rfl, by omega, rfl⟩⟩⟩)
theorem lowBit_c {t : Int} (ht : i32 t) : pJ 1 150 [(0, t)] G R V :=
  c_X7_lowBit (t_X7_lowBit_0 ⟨ht, fun _ => ⟨0, rfl, by omega, rfl⟩, fun _ => ⟨_, rfl, t64 _, rfl⟩⟩)
theorem highBit_c {t : Int} (ht : i32 t) : pJ 1 151 [(0, t)] G R V :=
  c_X7_highBit (t_X7_highBit_0 ⟨ht, fun _ => ⟨_, rfl, t64 _, rfl⟩, fun _ => ⟨0, rfl, by omega, rfl⟩⟩)
theorem timesUpTo_c {a b : Int} (ha : i64 a) (hb : i64 b) : pJ 1 152 [(2, a), (2, b)] G R V :=
  c_X7_timesUpTo (t_X7_timesUpTo_0 ⟨ha, fun _ => ⟨0, rfl, by omega, rfl⟩, fun _ => ⟨hb, fun h => ⟨h, fun _ => ⟨_, rfl, t64 _, rfl⟩, fun _ => ⟨_, rfl, by omega, rfl⟩⟩, fun _ => ⟨0, rfl, by omega, rfl⟩⟩⟩)
theorem powerUpTo_c {a b : Int} (ha : i64 a) (hb : i64 b) : pJ 2 153 [(2, a), (2, b)] G R V := by
  refine c_X7_powerUpTo (t_X7_powerUpTo_0 ⟨hb, fun _ => ⟨1, rfl, by omega, rfl⟩, fun _ => ⟨ha, fun _ => ⟨fun _ => ?_, fun _ => ⟨0, rfl, by omega, rfl⟩⟩, fun _ => ⟨1, rfl, by omega, rfl⟩⟩⟩)
  refine pool2 (f := fun x y => [some (2, a), none, some (2, b), none, some (2, x), none, some (0, y)]) (Inv := fun x y => i64 x ∧ 0 ≤ y ∧ y ≤ 50) (μ := fun _ y => (50 - y).toNat) (fun x y h ih => ?_) 1 0 (by omega)
  refine t_X7_powerUpTo_28 ⟨by omega, fun _ => ⟨_, rfl, h.1, rfl⟩, fun _ => ⟨hb, fun _ => ⟨_, rfl, h.1, rfl⟩, fun _ => ?_⟩⟩
  exact pJ_u (timesUpTo_c h.1 ha) (fun v hv => ⟨by omega, ih _ _ ⟨hv, by omega, by omega⟩ (by omega)⟩)
theorem factorialUpTo_c {a : Int} (ha : i64 a) : pJ 1 154 [(2, a)] G R V := by
  refine c_X7_factorialUpTo (t_X7_factorialUpTo_0 ⟨ha, fun _ => ?_, fun _ => ⟨_, rfl, by omega, rfl⟩⟩)
  refine pool2 (f := fun x y => [some (2, a), none, some (2, x), none, some (0, y)]) (Inv := fun x y => i64 x ∧ 0 ≤ y ∧ y ≤ 18) (μ := fun _ y => (18 - y).toNat) (fun x y h ih => ?_) 1 2 (by omega)
  exact t_X7_factorialUpTo_17 ⟨by omega, fun _ => ⟨_, rfl, h.1, rfl⟩, fun _ => ⟨ha, fun _ => ⟨_, rfl, h.1, rfl⟩, fun _ => ⟨by omega, ih _ _ ⟨t64 _, by omega, by omega⟩ (by omega)⟩⟩⟩
theorem powerOf_c {a b : Int} (hb : 0 ≤ b ∧ b ≤ 1000) : pJ 1 155 [(2, a), (0, b)] G R V := by
  refine c_X7_powerOf (t_X7_powerOf_0 ?_)
  refine pool2 (f := fun x y => [some (2, a), none, some (0, b), some (2, x), none, some (0, y)]) (Inv := fun x y => i64 x ∧ 0 ≤ y ∧ y ≤ b) (μ := fun _ y => (b - y).toNat) (fun x y h ih => ?_) 1 0 (by omega)
  exact t_X7_powerOf_5 ⟨by omega, by omega, fun _ => ⟨_, rfl, h.1, rfl⟩, fun _ => ⟨by omega, ih _ _ ⟨t64 _, by omega, by omega⟩ (by omega)⟩⟩
theorem greatestDivisor_c {a b : Int} (ha : i64 a) (hb : i64 b) : pJ 1 156 [(2, a), (2, b)] G R V := by
  refine c_X7_greatestDivisor (t_X7_greatestDivisor_0 ?_)
  refine pool3 (f := fun x y z => [none, none, none, none, some (2, x), none, some (2, y), none, some (0, z)]) (Inv := fun x y z => i64 x ∧ i64 y ∧ 0 ≤ z ∧ z ≤ 100) (μ := fun _ _ z => (100 - z).toNat) (fun x y z h ih => ?_) a b 0 ⟨ha, hb, by omega, by omega⟩
  exact t_X7_greatestDivisor_9 ⟨by omega, fun _ => ⟨_, rfl, h.1, rfl⟩, fun _ => ⟨h.2.1, fun _ => ⟨_, rfl, h.1, rfl⟩, fun q => ⟨q, by omega, ih _ _ _ ⟨h.2.1, t64 _, by omega, by omega⟩ (by omega)⟩⟩⟩
theorem isPowerOfPrime_c {n : Int} (hn : 0 ≤ n ∧ n ≤ 1000) : pI 1 0 1 157 [(0, n)] G R V := by
  refine c_X7_isPowerOfPrime (t_X7_isPowerOfPrime_0 ?_)
  refine pool1 (f := fun x => [some (0, n), some (0, x)]) (Inv := fun x => 2 ≤ x ∧ x ≤ 1002) (μ := fun x => (1002 - x).toNat) (fun x h ih => ?_) 2 (by omega)
  have m1 := Int.emod_nonneg n (show x ≠ 0 by omega)
  have m2 := Int.emod_lt_of_pos n (show 0 < x by omega)
  refine t_X7_isPowerOfPrime_2 ⟨by omega, by omega, fun _ => ⟨0, rfl, by omega, rfl⟩, fun _ => ⟨by omega, by omega, fun _ => ⟨by omega, ih _ (by omega) (by omega)⟩, fun _ => ?_⟩⟩
  refine pool2 (f := fun y z => [none, some (0, x), some (0, y), some (0, z)]) (Inv := fun y z => 0 ≤ y ∧ y ≤ 1000 ∧ 0 ≤ z ∧ z ≤ 120) (μ := fun _ z => (120 - z).toNat) (fun y z h2 ih2 => ?_) n 0 (by omega)
  have m3 := Int.emod_nonneg y (show x ≠ 0 by omega)
  have m4 := Int.emod_lt_of_pos y (show 0 < x by omega)
  have m5 := Int.ediv_nonneg h2.1 (show 0 ≤ x by omega)
  have m6 := Int.ediv_le_self x h2.1
  exact t_X7_isPowerOfPrime_17 ⟨by omega, fun _ => ⟨by omega, fun _ => ⟨0, rfl, by omega, rfl⟩, fun _ => ⟨1, rfl, by omega, rfl⟩⟩, fun _ => ⟨by omega, by omega, by omega, by omega, fun _ => ⟨fun _ => ⟨0, rfl, by omega, rfl⟩, fun _ => ⟨1, rfl, by omega, rfl⟩⟩, fun _ => ⟨by omega, by omega, ih2 _ _ (by omega) (by omega)⟩⟩⟩
def bcO (x0 : Int) : Bool :=
  let a := x0 - kand (kusr x0 1) 1431655765
  let b := kand a 858993459 + kand (kusr a 2) 858993459
  let c := b + kusr b 4
  let e := kand c 252645135
  let f := e + kusr e 8
  let g := f + kusr f 16
  let ok := fun (x : Int) => decide (-2147483648 ≤ x) && decide (x ≤ 2147483647)
  ok a && ok b && ok c && ok f && ok g && decide (0 ≤ kand g 63) && decide (kand g 63 ≤ 8)
theorem bcO_all : ∀ x : Fin 256, bcO ((x.val : Nat) : Int) = true := by decide +kernel
theorem bitCount_c {x : Int} (hx : 0 ≤ x ∧ x ≤ 255) : pI 1 0 8 242 [(0, x)] G R V := by
  have h := bcO_all ⟨x.toNat, by omega⟩
  simp only [Int.toNat_of_nonneg hx.1] at h
  unfold bcO at h
  dsimp only at h
  simp only [Bool.and_eq_true, decide_eq_true_eq] at h
  obtain ⟨⟨⟨⟨⟨⟨h1, h2⟩, h3⟩, h4⟩, h5⟩, h6⟩, h7⟩ := h
  exact c_J6_bitCount_0f7a4 (t_J6_bitCount_0f7a4_0 ⟨h1, h2, h3, h4, h5, _, rfl, ⟨h6, h7⟩, rfl⟩)
end
