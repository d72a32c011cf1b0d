section
variable {d : Nat} {G : List gS} {R V : gV} {M : Nat}
theorem maps_c (ly : lay8 G R M) (hM : MI V M) {a b w : Int} (h1 : i32 a) (h2 : i32 b) (h3 : i32 w) : aJ 3 V M 231 [(4, (M : Int)), (0, a), (0, b), (0, w)] G R := by
  have n := MI_N hM
  refine c_X8_maps (t_X8_maps_0 ly (cwI_u (by omega) (isAct_c ly h1) (fun v V1 ha => ?_)))
  obtain ⟨e, v01, ha⟩ := ha
  subst e
  refine ⟨by omega, fun _ => ⟨_, rfl, mQ_r hM⟩, fun za => cwI_u (by omega) (isAct_c ly h2) (fun v V2 hb => ?_)⟩
  obtain ⟨e, v02, hb⟩ := hb
  subst e
  refine ⟨by omega, fun _ => ⟨_, rfl, mQ_r hM⟩, fun zb => ⟨h3, cpI_u (by omega) (in_c (i32_64 h3) ⟨by omega, by omega⟩ ⟨by omega, by omega⟩) ⟨bi32 _, fun z => ?_, fun _ => ⟨_, rfl, mQ_r hM⟩⟩⟩⟩
  have a0 := ha za
  have b0 := hb zb
  have second : wpv K_X8_maps 2 (fun r V' => ∃ v, r = some (2, v) ∧ mQ V2 V' M) 136 [some (4, (M : Int)), some (0, a), some (0, b), some (0, w), none, some (2, 1), none, some (0, 0)] [] G R V2 := by
    refine pool2 (f := fun x y => [some (4, (M : Int)), some (0, a), some (0, b), some (0, w), none, some (2, x), none, some (0, y)]) (fun x y => 0 ≤ y ∧ y ≤ V2 M 13 ∧ i64 x ∧ (¬ w = 0 → 1 ≤ x)) (fun _ y => (V2 M 13 - y).toNat) (fun x y hx ih => ?_) 1 0 ⟨by omega, by omega, ⟨by omega, by omega⟩, by omega⟩
    obtain ⟨y0, y1, x0, x1⟩ := hx
    have fin : (((¬ 1000000000000000 < x) → ∃ v, some ((2 : Nat), x) = some (2, v) ∧ mQ V2 V2 M) ∧ ((1000000000000000 < x) → ∃ v, some ((2 : Nat), (-5 : Int)) = some (2, v) ∧ mQ V2 V2 M)) := ⟨fun _ => ⟨_, rfl, mQ_r hM⟩, fun _ => ⟨_, rfl, mQ_r hM⟩⟩
    refine t_X8_maps_136 ly (fun _ => ⟨by omega, fun _ => ⟨x0, fin⟩, fun c => ⟨x0, fun _ => fin, fun c2 => ⟨by omega, by omega, by omega, fun p64 => ⟨h3, fun zw => ?_, fun _ => ?_⟩⟩⟩⟩)
    · have tb := MI_tb hM (c := y) (e := y) (by omega) (by omega)
      have t1 := tb.2.2 rfl
      refine ⟨by omega, by omega, by omega, fun _ => cwJ_u (by omega) (toThe_c ⟨by omega, by omega⟩ p64) (fun u V3 hu => ?_)⟩
      rw [hu.1]
      refine cwJ_u (by omega) (times_c x0 hu.2.1) (fun u2 V4 hu2 => ?_)
      rw [hu2.1]
      have b2 := hu2.2.2 (x1 zw) (by omega) (hu.2.2 t1)
      refine pool2 (f := fun al i => [some (4, (M : Int)), some (0, a), some (0, b), some (0, w), none, some (2, al), none, some (0, y), some (2, V2 (M + 22) (300 * a + y)), none, some (2, i)]) (fun al i => 1 ≤ al ∧ al ≤ 1000000000000001 ∧ 2 ≤ i ∧ i ≤ 1000000000000002 ∧ (al ≤ 1000000000000000 → i ≤ 1000000000000001)) (fun _ i => (1000000000000003 - i).toNat) (fun al i hx ih2 => ?_) u2 2 (by omega)
      refine t_X8_maps_227 ly ⟨⟨by omega, by omega⟩, p64, fun _ => ⟨by omega, ih _ _ ⟨by omega, by omega, ⟨by omega, by omega⟩, by omega⟩ (by omega)⟩, fun c3 => ⟨⟨by omega, by omega⟩, fun _ => ⟨by omega, ih _ _ ⟨by omega, by omega, ⟨by omega, by omega⟩, by omega⟩ (by omega)⟩, fun c4 => cwJ_u (by omega) (times_c (x := al) (y := i) ⟨by omega, by omega⟩ ⟨by omega, by omega⟩) (fun u5 V5 hu5 => ?_)⟩⟩
      rw [hu5.1, jadd_e ⟨by omega, by omega⟩]
      have b5 := hu5.2.2 (by omega) (by omega) (by omega)
      exact ih2 _ _ (by omega) (by omega)
    · refine cwJ_u (by omega) (markOf_c ly hM b0 (by omega)) (fun u V3 hu => ?_)
      rw [hu.1]
      refine cwJ_u (by omega) (toThe_c hu.2 p64) (fun u2 V4 hu2 => ?_)
      rw [hu2.1]
      refine cwJ_u (by omega) (times_c x0 hu2.2.1) (fun u3 V5 hu3 => ?_)
      rw [hu3.1]
      exact ⟨by omega, ih _ _ ⟨by omega, by omega, hu3.2.1, by omega⟩ (by omega)⟩
  refine pool2 (f := fun x y => [some (4, (M : Int)), some (0, a), some (0, b), some (0, w), some (0, x), some (0, y)]) (fun x y => 0 ≤ y ∧ y ≤ V2 M 13 ∧ (x = 0 ∨ x = 1)) (fun _ y => (V2 M 13 - y).toNat) (fun x y hx ih => ?_) 0 0 (by omega)
  refine t_X8_maps_36 ly (fun _ => ⟨by omega, fun _ => ⟨by omega, fun _ => second, fun _ => ⟨_, rfl, mQ_r hM⟩⟩, fun c => ⟨by omega, by omega, by omega, fun _ => ⟨by omega, fun _ => ⟨by omega, ih _ _ (by omega) (by omega)⟩, fun _ => ⟨h3, fun _ => ⟨by omega, by omega, by omega, fun _ => ⟨fun _ => ⟨by omega, ih _ _ (by omega) (by omega)⟩, fun _ => ⟨by omega, ih _ _ (by omega) (by omega)⟩⟩⟩, fun _ => ⟨fun _ => ⟨by omega, ih _ _ (by omega) (by omega)⟩, fun _ => cwJ_u (by omega) (markOf_c ly hM b0 (by omega)) (fun u V3 hu => ?_)⟩⟩⟩⟩⟩)
  rw [hu.1]
  exact ⟨hu.2, fun _ => ⟨by omega, ih _ _ (by omega) (by omega)⟩, fun _ => ⟨by omega, ih _ _ (by omega) (by omega)⟩⟩
end
