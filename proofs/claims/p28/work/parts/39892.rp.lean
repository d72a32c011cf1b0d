/-! any parts are those of some points; colourings; the table below its diagonal -/
section
variable {n N H C : Int} {mul act : Int → Int → Int} {inv : Int → Int} {S : Int → Int → Int} {sz co fo nu m m1 m2 : Int → Int} {c d h g k : Int} {U : Int → Prop}
theorem RZ_sc (gt : GT N mul inv) (h : RZ N C mul S fo m) : ∀ q : Nat, RZ N C mul S fo (fun d => (q : Int) * m d) := by
  intro q
  induction q with
  | zero => exact RZ_c RZ_0 (fun d _ _ => by (try dsimp only); rw [show ((0 : Nat) : Int) = 0 from rfl, Int.zero_mul])
  | succ q ih => exact RZ_c (RZ_add ih h (fun a b a0 a1 b0 b1 => gt.2.1 a b a0 a1 b0 b1)) (fun d _ _ => by (try dsimp only); rw [show ((q + 1 : Nat) : Int) = (q : Int) + 1 by omega, Int.add_mul, Int.one_mul])
theorem RZ_parts (gt : GT N mul inv) (hp : hpsP N H mul S sz) (cl : clX N H C mul inv S co fo nu) {p : Int → Int} (p0 : ∀ c, 0 ≤ c → c < C → 0 ≤ p c) : RZ N C mul S fo (fun d => sm (fun c => p c * tbx N mul inv S fo c d) C.toNat) := by
  have key : ∀ j : Nat, (j : Int) ≤ C → RZ N C mul S fo (fun d => sm (fun c => p c * tbx N mul inv S fo c d) j) := by
    intro j
    induction j with
    | zero => intro _; exact RZ_0
    | succ j ih =>
      intro hj
      have a := ih (by omega)
      have b := RZ_sc gt (RZ_cos gt hp cl (c := (j : Int)) ⟨by omega, by omega⟩) (p j).toNat
      refine RZ_c (RZ_add a b (fun a b a0 a1 b0 b1 => gt.2.1 a b a0 a1 b0 b1)) (fun d _ _ => ?_)
      (try dsimp only)
      have s := sm_s (fun c => p c * tbx N mul inv S fo c d) (x := (j : Int)) (by omega)
      rw [show ((j : Int) + 1).toNat = j + 1 by omega, show ((j : Int)).toNat = j by omega] at s
      rw [s, Int.toNat_of_nonneg (p0 j (by omega) (by omega))]
  have := key C.toNat (by have := cl.1; omega)
  exact this
theorem RZ_p (gt : GT N mul inv) (hp : hpsP N H mul S sz) (cl : clX N H C mul inv S co fo nu) (h : RZ N C mul S fo m) : ∃ p : Int → Int, (∀ c, 0 ≤ c → c < C → 0 ≤ p c) ∧ ∀ d, 0 ≤ d → d < C → m d = sm (fun c => p c * tbx N mul inv S fo c d) C.toNat := by
  obtain ⟨n, act, as, f⟩ := h
  obtain ⟨p, p0, e⟩ := gs_parts (U := fun _ => True) gt hp cl as (fun _ _ _ _ _ _ => Iff.rfl)
  exact ⟨p, p0, fun d d0 d1 => by rw [f d d0 d1]; exact e d d0 d1⟩
theorem fx_ld (gt : GT N mul inv) (hp : hpsP N H mul S sz) (as : AS n N mul act) (us : US n N act U) (h0 : 0 ≤ h ∧ h < H) (g0 : 0 ≤ g ∧ g < N) : fx n N S act U (ld N H mul inv S h g) = fx n N S act U h := by
  have eh := hp_n hp
  rw [fx_e gt hp as (ld_s gt hp h0 g0).1, fx_e gt hp as h0, ← sm_ld gt hp g0 (fun k => mk_ n N H S act U k * Lq N S (ld N H mul inv S h g) k)]
  refine sm_congr (fun k k0 k1 => ?_)
  have k0' : 0 ≤ k ∧ k < H := ⟨k0, by omega⟩
  (try dsimp only)
  rw [mk_ld gt hp as us k0' g0, Lq_ld gt hp h0 k0' g0]
theorem fx_co (gt : GT N mul inv) (hp : hpsP N H mul S sz) (cl : clX N H C mul inv S co fo nu) (as : AS n N mul act) (us : US n N act U) (h0 : 0 ≤ h ∧ h < H) (k0 : 0 ≤ k ∧ k < H) (e : co h = co k) : fx n N S act U h = fx n N S act U k := by
  obtain ⟨g, g0, eg⟩ := cl_ex gt hp cl h0 k0 e
  rw [← eg, fx_ld gt hp as us h0 g0]
/-- what one turn leaves, the heap that it makes leaves -/
theorem fx_t (gt : GT N mul inv) (hp : hpsP N H mul S sz) (as : AS n N mul act) {t b : Int} (t0 : 0 ≤ t ∧ t < N) (b0 : 0 ≤ b ∧ b < H) (bt : S b t = 1) (bl : ∀ k, 0 ≤ k → k < H → S k t = 1 → sub1 N (S b) (S k)) : sm (fun x => bi (act x t = x)) n.toNat = fx n N S act (fun _ => True) b := by
  have en := AS_n as
  refine sm_congr (fun x x0 x1 => ?_)
  have x0' : 0 ≤ x ∧ x < n := ⟨x0, by omega⟩
  have s := sx_s gt hp as x0'
  (try dsimp only)
  refine bi_c ⟨fun e => ⟨trivial, fun u u0 u1 q => ?_⟩, fun e => e.2 t t0.1 t0.2 bt⟩
  have a : S (sx N H S act x) t = 1 := by rw [s.2 t t0.1 t0.2]; exact bi_t e
  have b := bl _ s.1.1 s.1.2 a u u0 u1 q
  rw [s.2 u u0 u1] at b
  exact bi_1.mp b
/-- the words over points: a power for each round -/
theorem RZ_col (gt : GT N mul inv) (hp : hpsP N H mul S sz) (cl : clX N H C mul inv S co fo nu) (as : AS n N mul act) {q : Int} (q0 : 0 < q) {r : Int → Int} (hr : ∀ d, 0 ≤ d → d < C → ∃ cn rp, rnP n N (r d) (S (fo d)) act cn rp) : RZ N C mul S fo (fun d => q ^ (r d).toNat) := by
  refine ⟨q ^ n.toNat, wact q n act inv, AS_w gt as q0, fun d d0 d1 => ?_⟩
  obtain ⟨cn, rp, rn⟩ := hr d d0 d1
  have f := (cl.2.2.1 d d0 d1).1
  exact (wd_n gt as (hp.2.2.1 _ f.1 f.2).1 rn q0).symm
theorem tb_tri (gt : GT N mul inv) (hp : hpsP N H mul S sz) (so : srtS N H S) (cl : clX N H C mul inv S co fo nu) (c0 : 0 ≤ c) (cd : c < d) (d1 : d < C) : tbx N mul inv S fo c d = 0 := by
  have eh := hp_n hp
  have fc := cl.2.2.1 c c0 (by omega)
  have fd := cl.2.2.1 d (by omega) d1
  have lt : fo c < fo d := by
    have := cl.2.2.2.1 c d c0 cd d1
    exact this
  have z : ov N H S co fo d c = 0 := by
    unfold ov
    refine sm_zz (fun k k0 k1 => ?_)
    have k0' : 0 ≤ k ∧ k < H := ⟨k0, by omega⟩
    (try dsimp only)
    by_cases q : co k = c
    · have w : ¬ sub1 N (S (fo d)) (S k) := fun w => by
        by_cases e : fo d = k
        · rw [← e, fd.2] at q; omega
        · have l1 := sub_szl hp (by have := gt.1; omega) fd.1 k0' w e
          obtain ⟨g, g0, eg⟩ := cl_ex gt hp cl (h := fo c) (k := k) fc.1 k0' (by rw [q]; exact fc.2)
          have l2 := ld_sz gt hp fc.1 g0
          rw [eg] at l2
          have l3 := srt_sz hp so fc.1.1 (Int.le_of_lt lt) fd.1.2
          omega
      rw [show Lq N S (fo d) k = 0 from bi_f w, Int.mul_zero]
    · rw [bi_f q, Int.zero_mul]
  rw [tb_e gt hp cl ⟨c0, by omega⟩ ⟨by omega, d1⟩, z, Int.mul_zero]
end
