/-! chance and rank, exactly -/
section
variable {N H C : Int} {mul : Int → Int → Int} {inv : Int → Int} {S S' : Int → Int → Int} {sz co fo nu : Int → Int} {j : Int}
theorem bot_L (gt : GT N mul inv) (hp : hpsP N H mul S sz) (so : srtS N H S) (j0 : 0 ≤ j ∧ j < H) : Lq N S 0 j = 1 := by
  have N1 := gt.1
  have h1 := hp.1
  obtain ⟨k, k0, k1, k2⟩ := hp.2.2.2.1 tr0 ⟨fun t _ _ => by unfold tr0; split <;> omega, rfl, fun s t s0 s1 t0 t1 a b => by
    have ha : s = 0 := Classical.byContradiction (fun q => by unfold tr0 at a; rw [if_neg q] at a; omega)
    have hb : t = 0 := Classical.byContradiction (fun q => by unfold tr0 at b; rw [if_neg q] at b; omega)
    rw [ha, hb, (gt.2.2.1 0 (by omega) (by omega)).1]; rfl⟩
  have le : ∀ i, 0 ≤ i → i < H → sub1 N (S k) (S i) := fun i i0 i1 t t0 t1 q => by
    rw [k2 t t0 t1] at q
    have ht : t = 0 := Classical.byContradiction (fun z => by unfold tr0 at q; rw [if_neg z] at q; omega)
    rw [ht]; exact (hp.2.2.1 i i0 i1).1.2.1
  have e : k = 0 := by
    apply Classical.byContradiction
    intro ne
    have a := sub_szl hp (by omega) (h := k) (k := 0) ⟨k0, k1⟩ (by omega) (le 0 (by omega) (by omega)) ne
    have b := srt_sz hp so (a := 0) (b := k) (by omega) k0 k1
    omega
  rw [e] at le
  exact bi_t (le j j0.1 j0.2)
theorem bot_sz (gt : GT N mul inv) (hp : hpsP N H mul S sz) : 1 ≤ sz 0 := (sz_p gt hp ⟨by omega, by have := hp.1; omega⟩).1
theorem gn_0 (gt : GT N mul inv) (hp : hpsP N H mul S sz) (so : srtS N H S) (k : Nat) : sm (fun j => mu H (Lq N S) j * sz j ^ k) H.toNat = gn N H S k 0 := by
  have eh := hp_n hp
  have h1 := hp.1
  rw [gn_mu gt hp so k 0 (by omega) (by omega)]
  refine sm_congr (fun j j0 j1 => ?_)
  (try dsimp only)
  rw [bot_L gt hp so ⟨j0, by omega⟩, Int.one_mul]
theorem gn_cls (gt : GT N mul inv) (hp : hpsP N H mul S sz) (so : srtS N H S) (cl : clX N H C mul inv S co fo nu) (k : Nat) : sm (fun c => mu H (Lq N S) (fo c) * nu c * sz (fo c) ^ k) C.toNat = gn N H S k 0 := by
  have ec : ((C.toNat : Nat) : Int) = C := Int.toNat_of_nonneg (by have := cl.1; omega)
  rw [← gn_0 gt hp so k]
  have s := sm_cl hp cl (fun _ => 1) (fun j => mu H (Lq N S) j * sz j ^ k) (fun j j0 j1 => by
    have a := cl.2.1 j j0 j1
    have f := cl.2.2.1 _ a.1.1 a.1.2
    obtain ⟨x, x0, ex⟩ := cl_ex gt hp cl f.1 (k := j) ⟨j0, j1⟩ f.2
    have z := ld_sz gt hp f.1 x0
    rw [ex] at z
    (try dsimp only)
    rw [mu_co gt hp so cl ⟨j0, j1⟩, z])
  rw [sm_congr (f := fun j => mu H (Lq N S) j * sz j ^ k) (g := fun j => 1 * (mu H (Lq N S) j * sz j ^ k)) (fun j _ _ => (Int.one_mul _).symm), s]
  refine sm_congr (fun c c0 c1 => ?_)
  (try dsimp only)
  rw [cl.2.2.2.2.2 c c0 (by omega), sm_congr (f := fun k => bi (co k = c) * 1) (g := fun k => bi (co k = c)) (fun j _ _ => Int.mul_one _), Int.mul_comm (mu H (Lq N S) (fo c)), Int.mul_assoc]
theorem jn_S (e : ∀ k, 0 ≤ k → k < H → req N (S k) (S' k)) {h x : Int} (h0 : 0 ≤ h ∧ h < H) (x0 : 0 ≤ x ∧ x < N) : jn N H S h x = jn N H S' h x := by
  unfold jn
  congr 1
  funext v
  refine propext ⟨fun ⟨a, ⟨b, c⟩, d⟩ => ⟨a, ⟨sub_rq (e h h0.1 h0.2) (e v a.1 a.2) b, by rw [← e v a.1 a.2 x x0.1 x0.2]; exact c⟩, fun j j0 j1 q r => sub_rq (e v a.1 a.2) (e j j0 j1) (d j j0 j1 (sub_rq (rqs (e h h0.1 h0.2)) (rqs (e j j0 j1)) q) (by rw [e j j0 j1 x x0.1 x0.2]; exact r))⟩, fun ⟨a, ⟨b, c⟩, d⟩ => ⟨a, ⟨sub_rq (rqs (e h h0.1 h0.2)) (rqs (e v a.1 a.2)) b, by rw [e v a.1 a.2 x x0.1 x0.2]; exact c⟩, fun j j0 j1 q r => sub_rq (rqs (e v a.1 a.2)) (rqs (e j j0 j1)) (d j j0 j1 (sub_rq (e h h0.1 h0.2) (e j j0 j1) q) (by rw [← e j j0 j1 x x0.1 x0.2]; exact r))⟩⟩
theorem gn_S (gt : GT N mul inv) (hp : hpsP N H mul S sz) (e : ∀ k, 0 ≤ k → k < H → req N (S k) (S' k)) : ∀ (k : Nat) (h : Int), 0 ≤ h → h < H → gn N H S k h = gn N H S' k h := by
  intro k
  induction k with
  | zero => intro h _ _; rfl
  | succ k ih =>
    intro h h0 h1
    show sm (fun x => gn N H S k (jn N H S h x)) N.toNat = sm (fun x => gn N H S' k (jn N H S' h x)) N.toNat
    refine sm_congr (fun x x0 x1 => ?_)
    have en := GT_n gt
    have x0' : 0 ≤ x ∧ x < N := ⟨x0, by omega⟩
    have a := (jn_s gt hp ⟨h0, h1⟩ x0').1
    (try dsimp only)
    rw [ih _ a.1 a.2, jn_S e ⟨h0, h1⟩ x0']
end
/-! the greatest divisor of two numbers -/
theorem jrem_e {a b : Int} (ha : i64 a) (hb : i64 b) (a0 : 0 ≤ a) (b0 : 0 < b) : jrem a b = a % b := by
  have e : jrem a b = jsub a (jmul (jdiv a b) b) := by
    unfold jrem jsub jmul jdiv
    rw [Int64.ofInt_toInt, Int64.ofInt_toInt]
  have m := Int.emod_nonneg a (show b ≠ 0 by omega)
  have l := Int.emod_lt_of_pos a b0
  have d := Int.mul_ediv_add_emod a b
  rw [e, jdiv_e ha hb a0 b0, jmul_w, jsub_w]
  have c : a / b * b = a - a % b := by rw [Int.mul_comm]; omega
  rw [c, jw_e (x := a - a % b) ⟨by omega, by omega⟩, jw_e (x := a - (a - a % b)) ⟨by omega, by omega⟩]
  omega
def gc (a b : Int) : Int := (Nat.gcd a.toNat b.toNat : Nat)
theorem gc_s {x y : Int} (x0 : 0 ≤ x) (y0 : 0 < y) : gc y (x % y) = gc x y := by
  unfold gc
  have e : (x % y).toNat = x.toNat % y.toNat := by
    obtain ⟨a, ea⟩ := Int.eq_ofNat_of_zero_le x0
    obtain ⟨b, eb⟩ := Int.eq_ofNat_of_zero_le (Int.le_of_lt y0)
    rw [ea, eb]
    rfl
  rw [e, Nat.gcd_comm x.toNat, Nat.gcd_rec y.toNat x.toNat, Nat.gcd_comm]
theorem gc_0 {x : Int} (x0 : 0 ≤ x) : gc x 0 = x := by
  unfold gc
  show ((Nat.gcd x.toNat 0 : Nat) : Int) = x
  rw [Nat.gcd_zero_right]
  exact Int.toNat_of_nonneg x0
theorem gc_p {a b : Int} (b0 : 0 < b) : 0 < gc a b := by
  unfold gc
  have := Nat.gcd_pos_of_pos_right a.toNat (show 0 < b.toNat by omega)
  omega
section
variable {G : List gS} {R V : gV} {T : gT} {W : gV} {L : Int → Int} {I : Int → gD} {B M S N g b x p n o m y : Nat} {C D E : Int} {dd : gD}
theorem gcd_e {a c : Int} (a0 : 0 ≤ a) (ha : i64 a) (c0 : 0 < c) (hc : i64 c) : cpJ 1 (gc a c) 235 [(2, a), (2, c)] G R V := by
  refine c_X8_gcd (t_X8_gcd_0 ?_)
  refine pool2 (f := fun x y => [none, none, none, none, some (2, x), none, some (2, y)]) (fun x y => (0 ≤ x ∧ i64 x) ∧ (0 ≤ y ∧ i64 y) ∧ gc x y = gc a c) (fun _ y => y.toNat) (fun x y hx ih => ?_) a c ⟨⟨a0, ha⟩, ⟨by omega, hc⟩, rfl⟩
  obtain ⟨⟨x0, xr⟩, ⟨y0, yr⟩, e⟩ := hx
  refine t_X8_gcd_6 ⟨yr, fun z => ⟨?_, rfl⟩, fun z => ⟨by omega, ?_⟩⟩
  · rw [← e, show y = 0 by omega, gc_0 x0]
  · rw [jrem_e xr yr x0 z]
    have m := Int.emod_nonneg x (show y ≠ 0 by omega)
    have l := Int.emod_lt_of_pos x z
    exact ih _ _ ⟨⟨y0, yr⟩, ⟨m, by omega, by omega⟩, by rw [gc_s x0 z]; exact e⟩ (by omega)
theorem greatest_e {a c : Int} (a0 : 0 ≤ a) (ha : a ≤ 2985984000000) (c0 : 0 < c) (hc : c ≤ 2985984000000) : cpJ 1 (gc a c) 156 [(2, a), (2, c)] G R V := by
  refine c_X7_greatestDivisor (t_X7_greatestDivisor_0 ?_)
  refine pool3 (f := fun x y z => [none, none, none, none, some (2, x), none, some (2, y), none, some (0, z)]) (Inv := fun x y z => (0 ≤ x ∧ x ≤ 2985984000000) ∧ (0 ≤ y ∧ y ≤ 2985984000000) ∧ gc x y = gc a c ∧ (0 ≤ z ∧ z ≤ 100) ∧ (0 < z → y < x ∧ x * y < 2 ^ (84 - z.toNat))) (μ := fun _ _ z => (100 - z).toNat) (fun x y z h ih => ?_) a c 0 ⟨by omega, by omega, rfl, by omega, fun q => by omega⟩
  obtain ⟨x0, y0, e, z0, hz⟩ := h
  have fin : y = 0 → x = gc a c := fun q => by rw [← e, q, gc_0 x0.1]
  refine t_X7_greatestDivisor_9 ⟨by omega, fun q => ⟨?_, rfl⟩, fun q => ⟨⟨by omega, by omega⟩, fun q2 => ⟨by rw [← fin q2], rfl⟩, fun q2 => ⟨q2, by omega, ?_⟩⟩⟩
  · have w := hz (by omega)
    have e0 : 84 - z.toNat = 0 := by omega
    rw [e0, Int.pow_zero] at w
    have y1 : y = 0 := by
      apply Classical.byContradiction
      intro ne
      have : 1 * 1 ≤ x * y := Int.mul_le_mul (by omega) (by omega) (by omega) (by omega)
      omega
    rw [← fin y1]
  · have yp : 0 < y := by omega
    rw [jrem_e ⟨by omega, by omega⟩ ⟨by omega, by omega⟩ x0.1 yp]
    have m := Int.emod_nonneg x (show y ≠ 0 by omega)
    have l := Int.emod_lt_of_pos x yp
    refine ih _ _ _ ⟨y0, by omega, by rw [gc_s x0.1 yp]; exact e, by omega, fun _ => ⟨l, ?_⟩⟩ (by omega)
    by_cases zz : z = 0
    · have : y * (x % y) ≤ 2985984000000 * 2985984000000 := Int.mul_le_mul y0.2 (by omega) m (by omega)
      rw [zz]
      have p : (2 : Int) ^ (84 - ((0 : Int) + 1).toNat) = 9671406556917033397649408 := by decide
      rw [p]
      omega
    · have w := hz (by omega)
      by_cases big : z < 84
      · have ep : (2 : Int) ^ (84 - z.toNat) = 2 * 2 ^ (84 - (z + 1).toNat) := by
          rw [show 84 - z.toNat = (84 - (z + 1).toNat) + 1 by omega, Int.pow_succ, Int.mul_comm]
        rw [ep] at w
        have d := Int.mul_ediv_add_emod x y
        have q1 : 1 ≤ x / y := (Int.le_ediv_iff_mul_le yp).mpr (by omega)
        have q3 : y * 1 ≤ y * (x / y) := Int.mul_le_mul_of_nonneg_left q1 (by omega)
        have q4 : 2 * (x % y) ≤ x := by omega
        have q5 : y * (2 * (x % y)) ≤ y * x := Int.mul_le_mul_of_nonneg_left q4 (by omega)
        have e6 : y * (2 * (x % y)) = 2 * (y * (x % y)) := by rw [← Int.mul_assoc, Int.mul_comm y 2, Int.mul_assoc]
        rw [Int.mul_comm y x] at q5
        omega
      · exfalso
        have e0 : 84 - z.toNat = 0 := by omega
        have w2 := w.2
        rw [e0, Int.pow_zero] at w2
        have : 1 * 1 ≤ x * y := Int.mul_le_mul (by omega) (by omega) (by omega) (by omega)
        omega
theorem powerOf_e {a c : Int} (hc : 0 ≤ c ∧ c ≤ 1000) : cpJ 1 (jw (a ^ c.toNat)) 155 [(2, a), (0, c)] G R V := by
  refine c_X7_powerOf (t_X7_powerOf_0 ?_)
  refine pool2 (f := fun x y => [some (2, a), none, some (0, c), some (2, x), none, some (0, y)]) (Inv := fun x y => x = jw (a ^ y.toNat) ∧ 0 ≤ y ∧ y ≤ c) (μ := fun _ y => (c - y).toNat) (fun x y h ih => ?_) 1 0 ⟨?_, by omega, by omega⟩
  · obtain ⟨e, y0, y1⟩ := h
    refine t_X7_powerOf_5 ⟨by omega, by omega, fun z => ⟨by rw [e, show y = c by omega], rfl⟩, fun z => ⟨by omega, ih _ _ ⟨?_, by omega, by omega⟩ (by omega)⟩⟩
    rw [jmul_w, e, jw_ml, show (y + 1).toNat = y.toNat + 1 by omega, Int.pow_succ]
  · show (1 : Int) = jw (a ^ 0)
    rw [Int.pow_zero]
    exact (jw_e ⟨by omega, by omega⟩).symm
noncomputable abbrev dgn (d : gD) (k : Int) : Int := gn (d 0 1) (d 0 2) (hsD d) k.toNat 0
noncomputable abbrev rgn (V : gV) (M : Nat) (k : Int) : Int := gn (V M 5) (V M 12) (mHas V M) k.toNat 0
theorem pow_b {N : Int} (hN : 1 ≤ N ∧ N ≤ 120) : ∀ k : Nat, 1 ≤ N ^ k ∧ N ^ k ≤ 120 ^ k := by
  intro k
  induction k with
  | zero => rw [Int.pow_zero, Int.pow_zero]; omega
  | succ k ih =>
    rw [Int.pow_succ, Int.pow_succ]
    have a : 1 * 1 ≤ N ^ k * N := Int.mul_le_mul ih.1 hN.1 (by omega) (by omega)
    have b : N ^ k * N ≤ 120 ^ k * 120 := Int.mul_le_mul ih.2 hN.2 (by omega) (by omega)
    omega
theorem pow_m {k n : Nat} (h : k ≤ n) : (120 : Int) ^ k ≤ 120 ^ n := by
  have : (120 : Nat) ^ k ≤ 120 ^ n := Nat.pow_le_pow_right (by omega) h
  exact_mod_cast this
theorem rgn_r (hM : MI V M) {k : Int} (k0 : 0 ≤ k ∧ k ≤ 8) : 0 ≤ rgn V M k ∧ rgn V M k ≤ V M 5 ^ k.toNat ∧ rgn V M k ≤ 42998169600000000 := by
  have n := MI_N hM
  have b : 0 ≤ rgn V M k ∧ rgn V M k ≤ V M 5 ^ k.toNat := gn_b (MI_gt hM) (MI_hp hM) k.toNat 0 (by omega) (by omega)
  have p := (pow_b n.1 k.toNat).2
  have q := pow_m (show k.toNat ≤ 8 by omega)
  have e : (120 : Int) ^ 8 = 42998169600000000 := by decide
  omega
theorem making_e (ly : lay8 G R M) (hM : MI V M) {k : Int} (k0 : 0 ≤ k ∧ k ≤ 8) : cpJ 1 (rgn V M k) 236 [(4, (M : Int)), (0, k)] G R V := by
  have n := MI_N hM
  have z := gn_0 (MI_gt hM) (MI_hp hM) (MI_so hM) k.toNat
  have rb := rgn_r hM k0
  have ez : rgn V M k = jw (sm (fun j => mu (V M 12) (Lq (V M 5) (mHas V M)) j * V (M + 10) j ^ k.toNat) (V M 12).toNat) := by
    rw [z]
    exact (jw_e ⟨by omega, by omega⟩).symm
  rw [ez]
  refine c_X8_making (t_X8_making_0 ly ?_)
  refine pool2 (f := fun x y => [some (4, (M : Int)), some (0, k), some (2, x), none, some (0, y)]) (fun x y => 0 ≤ y ∧ y ≤ V M 12 ∧ x = jw (sm (fun j => mu (V M 12) (Lq (V M 5) (mHas V M)) j * V (M + 10) j ^ k.toNat) y.toNat)) (fun _ y => (V M 12 - y).toNat) (fun x y hx ih => ?_) 0 0 ⟨by omega, by omega, (jw_e ⟨by show (-9223372036854775808 : Int) ≤ 0; omega, by show (0 : Int) ≤ 9223372036854775807; omega⟩).symm⟩
  obtain ⟨y0, y1, ex⟩ := hx
  refine t_X8_making_5 ly (fun _ => ⟨by omega, fun c => ⟨by rw [ex, show y = V M 12 by omega], rfl⟩, fun c => ⟨by omega, fun _ => ?_⟩⟩)
  have sg := MI_sg hM (h := y) ⟨y0, c⟩
  have st := sm_s (fun j => mu (V M 12) (Lq (V M 5) (mHas V M)) j * V (M + 10) j ^ k.toNat) y0
  refine pool2 (f := fun z i => [some (4, (M : Int)), some (0, k), some (2, x), none, some (0, y), some (2, z), none, some (0, i)]) (fun z i => 0 ≤ i ∧ i ≤ k ∧ z = jw (mu (V M 12) (Lq (V M 5) (mHas V M)) y * V (M + 10) y ^ i.toNat)) (fun _ i => (k - i).toNat) (fun z i hz ih2 => ?_) _ 0 ⟨by omega, by omega, ?_⟩
  · obtain ⟨i0, i1, ez⟩ := hz
    refine t_X8_making_26 ly ⟨by omega, by omega, fun q => ⟨by omega, ih _ _ ⟨by omega, by omega, ?_⟩ (by omega)⟩, fun q => ⟨by omega, fun _ => ⟨by omega, ih2 _ _ ⟨by omega, by omega, ?_⟩ (by omega)⟩⟩⟩
    · rw [ex, ez, jadd_j, st, show i = k by omega]
    · rw [ez, jmul_w, jw_ml, show (i + 1).toNat = i.toNat + 1 by omega, Int.pow_succ, Int.mul_assoc]
  · rw [sg]
    show _ = jw (_ * V (M + 10) y ^ 0)
    rw [Int.pow_zero, Int.mul_one]
theorem draws_e (u : hT G R T (g + 10) o m E) (lk : lkT T R g dd) (hs : hsX dd) (hN : dd 0 1 ≤ 120) (th : TH T V) {k : Int} (k0 : 0 ≤ k ∧ k ≤ 6) : cpJ 2 (dgn dd k) 72 [(4, ((g + 10 : Nat) : Int)), (0, k)] G R V := by
  have hg := hs.2.2.2
  have gt := hg.1
  have hp := hs.1
  have so : srtS (dd 0 1) (dd 0 2) (hsD dd) := hs.2.1
  have cl := hg.2.1
  have c := u.a.cl _ (th (g + 10) 1)
  have e3 := lk_3 lk th
  have z := gn_cls gt hp so cl k.toNat
  have h1 := hp.1
  have gb : 0 ≤ dgn dd k ∧ dgn dd k ≤ dd 0 1 ^ k.toNat := gn_b gt hp k.toNat 0 (by omega) (by omega)
  have pb := (pow_b ⟨gt.1, hN⟩ k.toNat).2
  have pm := pow_m (show k.toNat ≤ 6 by omega)
  have e6 : (120 : Int) ^ 6 = 2985984000000 := by decide
  have ez : dgn dd k = jw (sm (fun c => mu (dd 0 2) (Lq (dd 0 1) (hsD dd)) (dd 207 c) * dd 208 c * dd 203 (dd 207 c) ^ k.toNat) (dd 0 3).toNat) := by
    rw [z]
    exact (jw_e ⟨by omega, by omega⟩).symm
  rw [ez]
  refine c_X4_drawsThatMakeAll (t_X4_drawsThatMakeAll_0 u.a.ly ?_)
  refine pool2 (f := fun q i => [some (4, ((g + 10 : Nat) : Int)), some (0, k), some (2, q), none, some (0, i)]) (Inv := fun q i => 0 ≤ i ∧ i ≤ dd 0 3 ∧ q = jw (sm (fun c => mu (dd 0 2) (Lq (dd 0 1) (hsD dd)) (dd 207 c) * dd 208 c * dd 203 (dd 207 c) ^ k.toNat) i.toNat)) (μ := fun _ i => (300 - i).toNat) (fun q i hi ih => ?_) 0 0 ⟨by omega, by omega, (jw_e ⟨by show (-9223372036854775808 : Int) ≤ 0; omega, by show (0 : Int) ≤ 9223372036854775807; omega⟩).symm⟩
  obtain ⟨i0, i1, eq⟩ := hi
  have st := sm_s (fun c => mu (dd 0 2) (Lq (dd 0 1) (hsD dd)) (dd 207 c) * dd 208 c * dd 203 (dd 207 c) ^ k.toNat) i0
  refine t_X4_drawsThatMakeAll_5 u.a.ly (fun _ => ⟨by omega, fun w => ⟨by rw [eq, show i = dd 0 3 by omega], rfl⟩, fun w => ⟨by omega, fun _ _ => cpI_u (by omega) (sizeInClass_e u.a th (by omega)) ⟨?_, cpJ_u (by omega) (powerOf_e (by omega)) ⟨by omega, ih _ _ ⟨by omega, by omega, ?_⟩ (by omega)⟩⟩⟩⟩)
  · have := (u.a.sz _ _).mp (th (g + 10 + 3) (V (g + 10 + 7) i))
    omega
  · have v7 : V (g + 10 + 7) i = dd 207 i := lk_j lk th 7 (by omega) (by omega) (by omega) i
    have v3 : V (g + 10 + 3) (dd 207 i) = dd 203 (dd 207 i) := lk_j lk th 3 (by omega) (by omega) (by omega) _
    have v8 : V (g + 10 + 8) i = dd 208 i := lk_j lk th 8 (by omega) (by omega) (by omega) i
    have v9 : V (g + 10 + 9) i = dd 209 i := lk_j lk th 9 (by omega) (by omega) (by omega) i
    have f := (cl.2.2.1 i i0 (by omega)).1
    have s9 := hg.2.2.2.2.1 i i0 (by omega)
    rw [kw_e (mu_32 gt hp so hN f)] at s9
    rw [v7, v3, v8, v9, s9, eq, jmul_w, jmul_w, jadd_w, st]
    rw [jw_ml, jw_mr, jw_b, jw_a]
noncomputable def chV (u l k w : Int) : Int := if (0 ≤ k ∧ k ≤ 6) ∧ (0 ≤ w ∧ w ≤ 1) then (if w = 0 then u / gc u l else l / gc u l) else -1
noncomputable def rchX (V : gV) (M : Nat) (k w : Int) : Int := chV (rgn V M k) (V M 5 ^ k.toNat) k w
noncomputable def dchX (d : gD) (k w : Int) : Int := chV (dgn d k) (d 0 1 ^ k.toNat) k w
theorem gn_eq {d : gD} (hM : MI V M) (h : dQ d V M) (k : Int) : dgn d k = rgn V M k := by
  obtain ⟨K, rq, _⟩ := hp_eq hM h
  have hs := h.2.2.2.2
  have hp := hs.1
  have gt := hs.2.2.2.1
  have n := MI_N hM
  rw [h.2.1, K] at hp
  rw [h.2.1] at gt
  show gn (d 0 1) (d 0 2) (hsD d) k.toNat 0 = _
  rw [h.2.1, K]
  exact gn_S gt hp rq k.toNat 0 (by omega) (by omega)
theorem ch_eq {d : gD} (hM : MI V M) (h : dQ d V M) (k w : Int) : dchX d k w = rchX V M k w := by
  unfold dchX rchX
  rw [gn_eq hM h, h.2.1]
abbrev wJE (T : gT) (d : Nat) (X : Int) (y : Nat) (as : List zV) (G : List gS) (R V : gV) : Prop := cwv d (fun r V' => ∃ v : Int, r = some (2, v) ∧ v = X ∧ TH T V') y as G R V
theorem opY {y : Nat} {as : List zV} {X : Int} (h : CI G R V B M S N W L I) (k : ∀ (T : gT) (g p n : Nat) (C D : Int) (o m : Nat) (E : Int), cT G R T B (B + 52) g p n C D o m E → lkT T R g (I 3) → TH T V → wJE T 8 X y as G R V) : cw 8 (fun r G' R' V' => r = some (2, X) ∧ CI G' R' V' B M S N W L I) y as G R V := by
  obtain ⟨T, ow, us, w, h, hN⟩ := h
  obtain ⟨g, p, n, C, D, o, m, E, u, lk⟩ := cI_cTl h
  refine cw_mono (by omega) (k T g p n C D o m E u lk h.th) (fun r G' R' V' q => ?_)
  obtain ⟨e1, e2, v, q1, q2, q3⟩ := q
  rw [e1, e2, q1, q2]
  exact ⟨rfl, T, ow, us, w, cI_v h q3, hN⟩
theorem chance_X (u : cT G R T B b g p n C D o m E) (lk : lkT T R g dd) (hs : hsX dd) (hN : dd 0 1 ≤ 120) (th : TH T V) {a c : Int} (ha : i32 a) (hc : i32 c) : wJE T 8 (dchX dd a c) 133 [(4, (B : Int)), (0, a), (0, c)] G R V := by
  have no : ¬ ((0 ≤ a ∧ a ≤ 6) ∧ (0 ≤ c ∧ c ≤ 1)) → (-1 : Int) = dchX dd a c := fun z => by unfold dchX chV; rw [if_neg z]
  have e1 : V (g + 1) 1 = dd 0 1 := lk.2.1 _ (th (g + 1) 1)
  have gt := hs.2.2.2.1
  refine c_X7_chance (t_X7_chance_0 u.ly ⟨ha, fun z => ⟨_, rfl, no (by omega), th⟩, fun z => ⟨fun z2 => ⟨_, rfl, no (by omega), th⟩, fun z2 => ⟨hc, fun z3 => ⟨_, rfl, no (by omega), th⟩, fun z3 => ⟨fun z4 => ⟨b, ⟨u.rb, u.u.b.ly⟩, g, ⟨u.u.rg, u.u.g.ly⟩, ?_⟩, fun z4 => ⟨_, rfl, no (by omega), th⟩⟩⟩⟩⟩)
  have k0 : 0 ≤ a ∧ a ≤ 6 := by omega
  have v : dchX dd a c = (if c = 0 then dgn dd a / gc (dgn dd a) (dd 0 1 ^ a.toNat) else dd 0 1 ^ a.toNat / gc (dgn dd a) (dd 0 1 ^ a.toNat)) := by unfold dchX chV; rw [if_pos (by omega)]
  rw [v]
  have h1 := hs.1.1
  have gb : 0 ≤ dgn dd a ∧ dgn dd a ≤ dd 0 1 ^ a.toNat := gn_b gt hs.1 a.toNat 0 (by omega) (by omega)
  have pb := pow_b ⟨gt.1, hN⟩ a.toNat
  have pm := pow_m (show a.toNat ≤ 6 by omega)
  have e6 : (120 : Int) ^ 6 = 2985984000000 := by decide
  refine cpJ_u (by omega) (draws_e u.u.g.h lk hs hN th k0) (fun _ => cpJ_u (by omega) (powerOf_e (by omega)) ?_)
  rw [e1, jw_e (x := dd 0 1 ^ a.toNat) ⟨by omega, by omega⟩]
  have gp := gc_p (a := dgn dd a) (b := dd 0 1 ^ a.toNat) (by omega)
  have gl : gc (dgn dd a) (dd 0 1 ^ a.toNat) ≤ dd 0 1 ^ a.toNat := by
    unfold gc
    have := Nat.gcd_le_right (dgn dd a).toNat (show 0 < (dd 0 1 ^ a.toNat).toNat by omega)
    omega
  refine cpJ_u (by omega) (greatest_e gb.1 (by omega) (by omega) (by omega)) ⟨⟨by omega, by omega⟩, fun w => ⟨fun w2 => ⟨w, _, rfl, ?_, th⟩, fun w2 => ⟨w, _, rfl, ?_, th⟩⟩, fun w => by omega⟩
  · rw [if_neg w2, jdiv_e ⟨by omega, by omega⟩ ⟨by omega, by omega⟩ (by omega) gp]
  · rw [if_pos w2, jdiv_e ⟨by omega, by omega⟩ ⟨by omega, by omega⟩ gb.1 gp]
theorem chance_C (ly : lay8 G R M) (hM : MI V M) {k w : Int} (h1 : i32 k) (h2 : i32 w) : cwv 2 (fun r V' => r = some (2, rchX V M k w) ∧ V' = V) 237 [(4, (M : Int)), (0, k), (0, w)] G R V := by
  have n := MI_N hM
  have no : ¬ ((0 ≤ k ∧ k ≤ 6) ∧ (0 ≤ w ∧ w ≤ 1)) → rchX V M k w = -1 := fun z => by unfold rchX chV; rw [if_neg z]
  refine c_X8_chance (t_X8_chance_0 ly ⟨h1, cpI_u (by omega) (in_c (i32_64 h1) ⟨by omega, by omega⟩ ⟨by omega, by omega⟩) ⟨bi32 _, fun z => ⟨by rw [no (by have := bi_0.mp z; omega)], rfl⟩, fun z => ⟨h2, cpI_u (by omega) (in_c (i32_64 h2) ⟨by omega, by omega⟩ ⟨by omega, by omega⟩) ⟨bi32 _, fun z2 => cpJ_u (by omega) (making_e ly hM (by have := bi_n0 z; omega)) ?_, fun z => ⟨by rw [no (by have := bi_0.mp z; omega)], rfl⟩⟩⟩⟩⟩)
  have k0 := bi_n0 z
  have w0 := bi_n0 z2
  have v : rchX V M k w = (if w = 0 then rgn V M k / gc (rgn V M k) (V M 5 ^ k.toNat) else V M 5 ^ k.toNat / gc (rgn V M k) (V M 5 ^ k.toNat)) := by unfold rchX chV; rw [if_pos (by omega)]
  rw [v]
  have rb := rgn_r hM (k := k) (by omega)
  have pb := pow_b n.1 k.toNat
  have pm := pow_m (show k.toNat ≤ 6 by omega)
  have e6 : (120 : Int) ^ 6 = 2985984000000 := by decide
  refine pool2 (f := fun x y => [some (4, (M : Int)), some (0, k), some (0, w), some (2, rgn V M k), none, some (2, x), none, some (0, y)]) (fun x y => 0 ≤ y ∧ y ≤ k ∧ x = V M 5 ^ y.toNat) (fun _ y => (k - y).toNat) (fun x y hx ih => ?_) 1 0 ⟨by omega, by omega, (Int.pow_zero _).symm⟩
  obtain ⟨y0, y1, ex⟩ := hx
  have gp := gc_p (a := rgn V M k) (b := V M 5 ^ k.toNat) (by omega)
  have gl : gc (rgn V M k) (V M 5 ^ k.toNat) ≤ V M 5 ^ k.toNat := by
    unfold gc
    have := Nat.gcd_le_right (rgn V M k).toNat (show 0 < (V M 5 ^ k.toNat).toNat by omega)
    omega
  refine t_X8_chance_38 ly ⟨by omega, by omega, fun q => ?_, fun q => fun _ => ⟨by omega, ih _ _ ⟨by omega, by omega, ?_⟩ (by omega)⟩⟩
  · rw [ex, show y = k by omega]
    refine cpJ_u (by omega) (gcd_e rb.1 ⟨by omega, by omega⟩ (by omega) ⟨by omega, by omega⟩) ⟨h2, fun w2 => ⟨⟨by omega, by omega⟩, by omega, ?_, rfl⟩, fun w2 => ⟨⟨by omega, by omega⟩, by omega, ?_, rfl⟩⟩
    · rw [if_neg w2, jdiv_e ⟨by omega, by omega⟩ ⟨by omega, by omega⟩ (by omega) gp]
    · rw [if_pos w2, jdiv_e ⟨by omega, by omega⟩ ⟨by omega, by omega⟩ rb.1 gp]
  · have pb2 := pow_b n.1 (y + 1).toNat
    have pm2 := pow_m (show (y + 1).toNat ≤ 6 by omega)
    have e2 : V M 5 ^ (y + 1).toNat = V M 5 ^ y.toNat * V M 5 := by rw [show (y + 1).toNat = y.toNat + 1 by omega, Int.pow_succ]
    rw [ex, e2]
    rw [e2] at pb2
    exact jmul_e ⟨by omega, by omega⟩
def rkP (F : Int → Int) (v : Int) : Prop := (0 ≤ v ∧ v ≤ 6) ∧ F v ≠ 0 ∧ ∀ j, 0 ≤ j → j < v → F j = 0
theorem rkP_u {F : Int → Int} (v w : Int) (h : rkP F v) (h' : rkP F w) : v = w := by
  rcases Int.lt_trichotomy v w with q | q | q
  · exact absurd (h'.2.2 v h.1.1 q) h.2.1
  · exact q
  · exact absurd (h.2.2 w h'.1.1 q) h'.2.1
theorem gn6 {N H : Int} {mul : Int → Int → Int} {inv : Int → Int} {S : Int → Int → Int} {sz : Int → Int} (gt : GT N mul inv) (hp : hpsP N H mul S sz) (so : srtS N H S) (hN : N ≤ 120) : 0 < gn N H S 6 0 := by
  have h1 := hp.1
  refine gn_p gt hp so 6 0 (by omega) (by omega) ?_
  have b := bot_sz gt hp
  have e : (2 : Int) ^ (6 + 1) = 128 := by decide
  rw [e]
  omega
theorem rank_X (u : cT G R T B b g p n C D o m E) (lk : lkT T R g dd) (hs : hsX dd) (hN : dd 0 1 ≤ 120) (th : TH T V) : wP T 8 (rkP (dgn dd)) 134 [(4, (B : Int))] G R V := by
  have so : srtS (dd 0 1) (dd 0 2) (hsD dd) := hs.2.1
  have g6 : 0 < dgn dd 6 := gn6 hs.2.2.2.1 hs.1 so hN
  have h1 := hs.1.1
  refine c_X7_rank (t_X7_rank_0 u.ly ?_)
  refine pool1 (f := fun i => [some (4, (B : Int)), some (0, i)]) (Inv := fun i => (0 ≤ i ∧ i ≤ 6) ∧ ∀ j, 0 ≤ j → j < i → dgn dd j = 0) (μ := fun i => (7 - i).toNat) (fun i hi ih => ?_) 0 ⟨by omega, fun j j0 j1 => by omega⟩
  obtain ⟨i0, hz⟩ := hi
  have gb : 0 ≤ dgn dd i ∧ dgn dd i ≤ dd 0 1 ^ i.toNat := gn_b hs.2.2.2.1 hs.1 i.toNat 0 (by omega) (by omega)
  have pb := pow_b ⟨hs.2.2.2.1.1, hN⟩ i.toNat
  have pm := pow_m (show i.toNat ≤ 6 by omega)
  have e6 : (120 : Int) ^ 6 = 2985984000000 := by decide
  refine t_X7_rank_2 u.ly ⟨by omega, fun z => by omega, fun _ => ⟨b, ⟨u.rb, u.u.b.ly⟩, g, ⟨u.u.rg, u.u.g.ly⟩, cpJ_u (by omega) (draws_e u.u.g.h lk hs hN th i0) ⟨⟨by omega, by omega⟩, fun z => ⟨by omega, ih _ ⟨?_, fun j j0 j1 => ?_⟩ (by omega)⟩, fun z => ⟨i, rfl, ⟨i0, z, hz⟩, th⟩⟩⟩⟩
  · have : i ≠ 6 := fun q => by rw [q] at z; omega
    omega
  · by_cases q : j = i
    · rw [q]; exact z
    · exact hz j j0 (by omega)
theorem rank_C (ly : lay8 G R M) (hM : MI V M) : cwv 2 (fun r V' => ∃ v, r = some (0, v) ∧ (qF V V' M ∧ rkP (rgn V M) v)) 238 [(4, (M : Int))] G R V := by
  have n := MI_N hM
  have g6 : 0 < rgn V M 6 := gn6 (MI_gt hM) (MI_hp hM) (MI_so hM) (by omega)
  refine c_X8_rank (t_X8_rank_0 ly ?_)
  refine pool1 (f := fun x => [some (4, (M : Int)), some (0, x)]) (fun x => (0 ≤ x ∧ x ≤ 6) ∧ ∀ j, 0 ≤ j → j < x → rgn V M j = 0) (fun x => (8 - x).toNat) (fun x hx ih => ?_) 0 ⟨by omega, fun j j0 j1 => by omega⟩
  obtain ⟨i0, hz⟩ := hx
  have rb := rgn_r hM (k := x) (by omega)
  refine t_X8_rank_2 ly ⟨by omega, fun z => by omega, fun _ => cpJ_u (by omega) (making_e ly hM (by omega)) ⟨⟨by omega, by omega⟩, fun z => ⟨x, rfl, qF_refl, i0, z, hz⟩, fun z => ⟨by omega, ih _ ⟨?_, fun j j0 j1 => ?_⟩ (by omega)⟩⟩⟩
  · have : x ≠ 6 := fun q => by rw [q] at z; omega
    omega
  · by_cases q : j = x
    · rw [q]; exact z
    · exact hz j j0 (by omega)
end
