section LZ
variable {p : Program} {e : Env} {s : State} {m : MethodId} {below : List Frame} {meth : Method} {c : Code} {l : Launch} {b L : Nat} {xs : Nat → Int32} {D : va_G} {cy : Nat → ClassId} {ν : Nat → Int}
theorem lw_fin (C0 : lw_At p s m meth c b L xs) {H : Heap} {locs : List Loc} {h : zH} (hr : lwR s D cy ν h H locs) {k : Nat} (hk : k ≤ 512) (jh : JH h k) {Ls : Array Slot} : W p l e room_1 s m #[Value.ref b] below meth c H locs h.length (zsl h) (lw_Z below #[Value.ref b] s) (F0 m 1319 Ls []) := by
  obtain ⟨hx, hb, hr0, hml, hown, hts, hX, hbl, hlocks, hgv⟩ := C0
  obtain ⟨G, R, V, hh, js⟩ := jh
  have m2 := (JS_room js hk).2
  refine lv_iconst (v := 1) hx hb dL_law_1319 (by decide) ?_
  refine va_forget (fun q hq => hr.2.2.2.2 q hq) ?_
  refine W.widen (k := 93552) (n := 8821594) (by rw [hh.1]; exact Nat.le_trans m2.1 (Nat.le_of_ble_eq_true rfl)) (by rw [zsl_HR hh]; exact Nat.le_trans m2.2 (Nat.le_of_ble_eq_true rfl)) ?_
  exact lw_ret hx hb hr0 hlocks dL_law_1320
theorem lw_cy (hts : ∀ w ∈ lw_tbl, w.before #[Value.ref b] s = true) : ∃ cy : Nat → ClassId, ∀ t, t < 6 → ArrOfT s (cy t) (ztya t) ∧ va_RA s (cy t) (ztya t) := by
  have prim : ∀ ty : FieldType, (Cond.arrayClass ty) ∈ lw_tbl → ∃ cA kA comp, s.vm.findClass ("[" ++ ty.toString) = some cA ∧ s.vm.classes[cA]? = some kA ∧ kA.kind = .array comp ty := fun ty hm => Cond.arrayClass_spec (hts _ hm)
  have refs : ∀ C : String, (Cond.arrayOver (.object C)) ∈ lw_tbl → ∃ (cA : ClassId) (kA : Class) (comp : ClassId), s.vm.classes[cA]? = some kA ∧ kA.kind = .array comp (.object C) ∧ s.vm.findClass C = some comp ∧ s.vm.findClass ("[" ++ (FieldType.object C).toString) = some cA := by
    intro C hm
    obtain ⟨comp, cA, kA, h1, h2, h3, h4, h5⟩ := Cond.arrayOver_spec (hts _ hm)
    exact ⟨cA, kA, comp, h3, h4, h1, h5⟩
  obtain ⟨c0, k0, m0, a0, b0, d0⟩ := prim .int zar.1
  obtain ⟨c1, k1, m1, a1, b1, d1⟩ := prim .long zar.2.1
  obtain ⟨c2, k2, m2, a2, b2, d2⟩ := prim .boolean zar.2.2
  obtain ⟨c3, k3, m3, a3, b3, d3, e3⟩ := refs RX5 (by decide +kernel)
  obtain ⟨c4, k4, m4, a4, b4, d4, e4⟩ := refs RX2 (by decide +kernel)
  obtain ⟨c5, k5, m5, a5, b5, d5, e5⟩ := refs RX1 (by decide +kernel)
  refine ⟨fun t => match t with
    | 0 => c0
    | 1 => c1
    | 2 => c2
    | 3 => c3
    | 4 => c4
    | _ => c5, fun t ht => ?_⟩
  match t, ht with
  | 0, _ => exact ⟨fun n z => ⟨fun k h => (by cases h), k0, b0, m0, d0⟩, a0⟩
  | 1, _ => exact ⟨fun n z => ⟨fun k h => (by cases h), k1, b1, m1, d1⟩, a1⟩
  | 2, _ => exact ⟨fun n z => ⟨fun k h => (by cases h), k2, b2, m2, d2⟩, a2⟩
  | 3, _ => exact ⟨fun n z => ⟨fun k h => (by cases h), k3, a3, m3, b3⟩, k3, m3, a3, b3, d3, e3⟩
  | 4, _ => exact ⟨fun n z => ⟨fun k h => (by cases h), k4, a4, m4, b4⟩, k4, m4, a4, b4, d4, e4⟩
  | 5, _ => exact ⟨fun n z => ⟨fun k h => (by cases h), k5, a5, m5, b5⟩, k5, m5, a5, b5, d5, e5⟩
theorem sub5 {L : Nat} (hL : L ≤ 2560) : (Int32.ofNat L - 5).toInt = (L : Int) - 5 := by
  have e : (Int32.ofNat L).toInt = (L : Int) := nI_toInt (n := L) (by omega)
  rw [Int32.toInt_sub, e]
  show Int.bmod ((L : Int) - 5) (2 ^ 32) = _
  unfold Int.bmod
  dsimp only
  split <;> omega
theorem JH_up {h : zH} {k : Nat} (jh : JH h k) : JH h (k + 1) := by
  obtain ⟨G, R, V, hh, js⟩ := jh
  obtain ⟨dd, c, m⟩ := js
  exact ⟨G, R, V, hh, dd, CI_N c (by omega), m⟩
theorem lw_loop (C0 : lw_At p s m meth c b L xs) (hK : va_K D vwCl (zty cy) s) (hc : ∀ F : Nat, zCO l D cy ν s.heap.size 8 (zexec zb0 F 8)) (hL : L ≤ 2560) : ∀ (n k : Nat), n + k = 512 → ∀ (h : zH) (H : Heap) (locs : List Loc) (Ls : Array Slot), JH h k → lwR s D cy ν h H locs → lv_has Ls 4 (lwl b s.heap.size 57 (nI (5 * k))) → W p l e room_1 s m #[Value.ref b] below meth c H locs h.length (zsl h) (lw_Z below #[Value.ref b] s) (F0 m 18 Ls []) := by
  intro n
  induction n with
  | zero =>
    intro k hk h H locs Ls jh hr hl
    obtain ⟨hx, hb, hr0, hml, hown, hts, hX, hbl, hlocks, hgv⟩ := id C0
    refine lv_iload_n hx hb dL_law_18 rfl (lv_at hl 0 rfl) ?_
    refine lv_aload_n hx hb dL_law_19 rfl (lv_at hl 3 rfl) ?_
    refine va_slen (A := fun q : Nat => s.heap.size ≤ q) hx hb hX hbl (Nat.not_le.mpr hbl) hr.2.2 dL_law_20 ?_
    refine lv_iconst (v := 5) hx hb dL_law_21 (by decide) ?_
    refine lv_isub hx hb dL_law_22 ?_
    refine lv_icmp_gt (tgt := 1319) hx hb dL_law_23 (by decide) (fun _ => lw_fin C0 hr (by omega) jh) (fun hn => absurd ?_ hn)
    rw [Int32.lt_iff_toInt_lt, sub5 hL, nI_toInt (by omega)]
    omega
  | succ n ih =>
    intro k hk h H locs Ls jh hr hl
    obtain ⟨hx, hb, hr0, hml, hown, hts, hX, hbl, hlocks, hgv⟩ := id C0
    refine lv_iload_n hx hb dL_law_18 rfl (lv_at hl 0 rfl) ?_
    refine lv_aload_n hx hb dL_law_19 rfl (lv_at hl 3 rfl) ?_
    refine va_slen (A := fun q : Nat => s.heap.size ≤ q) hx hb hX hbl (Nat.not_le.mpr hbl) hr.2.2 dL_law_20 ?_
    refine lv_iconst (v := 5) hx hb dL_law_21 (by decide) ?_
    refine lv_isub hx hb dL_law_22 ?_
    refine lv_icmp_gt (tgt := 1319) hx hb dL_law_23 (by decide) (fun _ => lw_fin C0 hr (by omega) jh) (fun hn => ?_)
    rw [Int32.lt_iff_toInt_lt, sub5 hL, nI_toInt (by omega)] at hn
    have hi : 5 * k + 5 ≤ L := by omega
    obtain ⟨j0, hj0, hop⟩ := pk_andE (xs (5 * k)) (m := 63) 6 (by decide)
    refine lv_aload_n hx hb dL_law_26 rfl (lv_at hl 3 rfl) ?_
    refine lv_iload_n hx hb dL_law_27 rfl (lv_at hl 0 rfl) ?_
    refine va_sld (A := fun q : Nat => s.heap.size ≤ q) hx hb hX hbl (Nat.not_le.mpr hbl) hr.2.2 (vp_in_nI (by omega) (by omega)) dL_law_28 ?_
    rw [nI_clamp (by omega)]
    refine lv_bipush (v := 63) hx hb dL_law_29 (by decide) ?_
    refine lv_iand hx hb dL_law_31 ?_
    refine W.eq (g2 := F0 m 32 Ls [.int (nI j0)]) (by rw [← hop]) ?_
    have kk : ∀ (H : Heap) (locs : List Loc) (h : zH), lwR s D cy ν h H locs → JH h (k + 1) → W p l e room_1 s m #[Value.ref b] below meth c H locs h.length (zsl h) (lw_Z below #[Value.ref b] s) (F0 m 1313 Ls []) := by
      intro H locs h hr jh
      refine lv_iinc (v := nI (5 * (k + 1))) (lv' := lwl b s.heap.size 57 (nI (5 * (k + 1)))) hx hb dL_law_1313 hl (k := 0) rfl ?_ (by decide) rfl (fun Ls hl => ?_)
      · exact nI_add (5 * k) 5
      · exact lv_goto (tgt := 18) hx hb dL_law_1316 (by decide) (ih (k + 1) (by omega) h H locs Ls jh hr hl)
    by_cases h35 : j0 < 35
    · match j0, h35 with
      | 0, _ => exact lv_tableIn (tgt := 188) hx hb dL_law_32 (by decide) (by decide) (by rfl) (by decide) (lwc_sheet C0 hK hc hi hL (by omega) jh hr hl kk)
      | 1, _ => exact lv_tableIn (tgt := 231) hx hb dL_law_32 (by decide) (by decide) (by rfl) (by decide) (lwc_write C0 hK hc hi hL (by omega) jh hr hl kk)
      | 2, _ => exact lv_tableIn (tgt := 274) hx hb dL_law_32 (by decide) (by decide) (by rfl) (by decide) (lwc_group C0 hK hc hi hL (by omega) jh hr hl kk)
      | 3, _ => exact lv_tableIn (tgt := 297) hx hb dL_law_32 (by decide) (by decide) (by rfl) (by decide) (lwc_count C0 hK hc hi hL (by omega) jh hr hl kk)
      | 4, _ => exact lv_tableIn (tgt := 320) hx hb dL_law_32 (by decide) (by decide) (by rfl) (by decide) (lwc_turn C0 hK hc hi hL (by omega) jh hr hl kk)
      | 5, _ => exact lv_tableIn (tgt := 353) hx hb dL_law_32 (by decide) (by decide) (by rfl) (by decide) (lwc_product C0 hK hc hi hL (by omega) jh hr hl kk)
      | 6, _ => exact lv_tableIn (tgt := 386) hx hb dL_law_32 (by decide) (by decide) (by rfl) (by decide) (lwc_ofTurn C0 hK hc hi hL (by omega) jh hr hl kk)
      | 7, _ => exact lv_tableIn (tgt := 419) hx hb dL_law_32 (by decide) (by decide) (by rfl) (by decide) (lwc_heap C0 hK hc hi hL (by omega) jh hr hl kk)
      | 8, _ => exact lv_tableIn (tgt := 452) hx hb dL_law_32 (by decide) (by decide) (by rfl) (by decide) (lwc_has C0 hK hc hi hL (by omega) jh hr hl kk)
      | 9, _ => exact lv_tableIn (tgt := 485) hx hb dL_law_32 (by decide) (by decide) (by rfl) (by decide) (lwc_join C0 hK hc hi hL (by omega) jh hr hl kk)
      | 10, _ => exact lv_tableIn (tgt := 528) hx hb dL_law_32 (by decide) (by decide) (by rfl) (by decide) (lwc_ofClass C0 hK hc hi hL (by omega) jh hr hl kk)
      | 11, _ => exact lv_tableIn (tgt := 561) hx hb dL_law_32 (by decide) (by decide) (by rfl) (by decide) (lwc_within C0 hK hc hi hL (by omega) jh hr hl kk)
      | 12, _ => exact lv_tableIn (tgt := 604) hx hb dL_law_32 (by decide) (by decide) (by rfl) (by decide) (lwc_table C0 hK hc hi hL (by omega) jh hr hl kk)
      | 13, _ => exact lv_tableIn (tgt := 637) hx hb dL_law_32 (by decide) (by decide) (by rfl) (by decide) (lwc_sylow C0 hK hc hi hL (by omega) jh hr hl kk)
      | 14, _ => exact lv_tableIn (tgt := 660) hx hb dL_law_32 (by decide) (by decide) (by rfl) (by decide) (lwc_down C0 hK hc hi hL (by omega) jh hr hl kk)
      | 15, _ => exact lv_tableIn (tgt := 683) hx hb dL_law_32 (by decide) (by decide) (by rfl) (by decide) (lwc_simple C0 hK hc hi hL (by omega) jh hr hl kk)
      | 16, _ => exact lv_tableIn (tgt := 696) hx hb dL_law_32 (by decide) (by decide) (by rfl) (by decide) (lwc_coset C0 hK hc hi hL (by omega) jh hr hl kk)
      | 17, _ => exact lv_tableIn (tgt := 729) hx hb dL_law_32 (by decide) (by decide) (by rfl) (by decide) (lwc_places C0 hK hc hi hL (by omega) jh hr hl kk)
      | 18, _ => exact lv_tableIn (tgt := 772) hx hb dL_law_32 (by decide) (by decide) (by rfl) (by decide) (lwc_heaps C0 hK hc hi hL (by omega) jh hr hl kk)
      | 19, _ => exact lv_tableIn (tgt := 795) hx hb dL_law_32 (by decide) (by decide) (by rfl) (by decide) (lwc_both C0 hK hc hi hL (by omega) jh hr hl kk)
      | 20, _ => exact lv_tableIn (tgt := 848) hx hb dL_law_32 (by decide) (by decide) (by rfl) (by decide) (lwc_colour C0 hK hc hi hL (by omega) jh hr hl kk)
      | 21, _ => exact lv_tableIn (tgt := 891) hx hb dL_law_32 (by decide) (by decide) (by rfl) (by decide) (lwc_many C0 hK hc hi hL (by omega) jh hr hl kk)
      | 22, _ => exact lv_tableIn (tgt := 934) hx hb dL_law_32 (by decide) (by decide) (by rfl) (by decide) (lwc_parts C0 hK hc hi hL (by omega) jh hr hl kk)
      | 23, _ => exact lv_tableIn (tgt := 967) hx hb dL_law_32 (by decide) (by decide) (by rfl) (by decide) (lwc_mark C0 hK hc hi hL (by omega) jh hr hl kk)
      | 24, _ => exact lv_tableIn (tgt := 1000) hx hb dL_law_32 (by decide) (by decide) (by rfl) (by decide) (lwc_act C0 hK hc hi hL (by omega) jh hr hl kk)
      | 25, _ => exact lv_tableIn (tgt := 1043) hx hb dL_law_32 (by decide) (by decide) (by rfl) (by decide) (lwc_same C0 hK hc hi hL (by omega) jh hr hl kk)
      | 26, _ => exact lv_tableIn (tgt := 1076) hx hb dL_law_32 (by decide) (by decide) (by rfl) (by decide) (lwc_maps C0 hK hc hi hL (by omega) jh hr hl kk)
      | 27, _ => exact lv_tableIn (tgt := 1119) hx hb dL_law_32 (by decide) (by decide) (by rfl) (by decide) (lwc_row C0 hK hc hi hL (by omega) jh hr hl kk)
      | 28, _ => exact lv_tableIn (tgt := 1172) hx hb dL_law_32 (by decide) (by decide) (by rfl) (by decide) (lwc_check C0 hK hc hi hL (by omega) jh hr hl kk)
      | 29, _ => exact lv_tableIn (tgt := 1195) hx hb dL_law_32 (by decide) (by decide) (by rfl) (by decide) (lwc_misfit C0 hK hc hi hL (by omega) jh hr hl kk)
      | 30, _ => exact lv_tableIn (tgt := 1208) hx hb dL_law_32 (by decide) (by decide) (by rfl) (by decide) (lwc_chance C0 hK hc hi hL (by omega) jh hr hl kk)
      | 31, _ => exact lv_tableIn (tgt := 1241) hx hb dL_law_32 (by decide) (by decide) (by rfl) (by decide) (lwc_rank C0 hK hc hi hL (by omega) jh hr hl kk)
      | 32, _ => exact lv_tableIn (tgt := 1254) hx hb dL_law_32 (by decide) (by decide) (by rfl) (by decide) (lwc_image C0 hK hc hi hL (by omega) jh hr hl kk)
      | 33, _ => exact lv_tableIn (tgt := 1277) hx hb dL_law_32 (by decide) (by decide) (by rfl) (by decide) (lwc_back C0 hK hc hi hL (by omega) jh hr hl kk)
      | 34, _ => exact lv_tableIn (tgt := 1300) hx hb dL_law_32 (by decide) (by decide) (by rfl) (by decide) (lwc_status C0 hK hc hi hL (by omega) jh hr hl kk)
      | k + 35, h => exact absurd h (by omega)
    · exact lv_tableOut (tgt := 1313) hx hb dL_law_32 (Or.inr (by rw [nI_toInt (by omega)]; omega)) (by decide) (kk H locs h hr (JH_up jh))
end LZ
set_option maxHeartbeats 4000000 in
set_option maxRecDepth 100000 in
theorem lw_K {s : State} {b : Nat} (hts : ∀ w ∈ lw_tbl, w.before #[Value.ref b] s = true) : ∃ (D : va_G) (cy : Nat → ClassId), va_K D vwCl (zty cy) s := by
  obtain ⟨cy, hcy⟩ := lw_cy hts
  have kn : ∀ (ci : Nat) (q : vw_C), vwCl[ci]? = some q → ∃ (cC : ClassId) (iS : Nat → Nat), u_Kn s q.1 q.2.1 q.2.2 cC iS := by
    intro ci q hq
    obtain ⟨ty, hin, -, -, -, -, -, -, hinst, -⟩ := zcls_ok ci q hq
    exact u_known hts hin (hts _ hinst)
  have kn2 : ∀ ci : Nat, ∃ (cC : ClassId) (iS : Nat → Nat), ∀ q : vw_C, vwCl[ci]? = some q → u_Kn s q.1 q.2.1 q.2.2 cC iS := by
    intro ci
    cases hq : vwCl[ci]? with
    | none => exact ⟨0, fun _ => 0, fun q h => by cases h⟩
    | some q =>
      obtain ⟨cC, iS, h⟩ := kn ci q hq
      exact ⟨cC, iS, fun q' h' => by cases h'; exact h⟩
  refine ⟨(fun ci => Classical.choose (kn2 ci), fun ci => Classical.choose (Classical.choose_spec (kn2 ci))), cy, fun ci q hq => Classical.choose_spec (Classical.choose_spec (kn2 ci)) q hq, fun k q hk => ?_⟩
  have hlt : k < 6 := (List.getElem?_eq_some_iff.mp hk).1
  rw [zty_at cy hlt] at hk
  cases hk
  exact hcy k hlt
set_option maxHeartbeats 4000000 in
set_option maxRecDepth 100000 in
theorem whole_start {p : Program} {e : Env} {s : State} {m : MethodId} {below : List Frame} {meth : Method} {c : Code} (l : Launch) {b L : Nat} {xs : Nat → Int32} (hL : L ≤ 2560) (C0 : lw_At p s m meth c b L xs) : W p l e room_1 s m #[Value.ref b] below meth c s.heap [] 0 0 (lw_Z below #[Value.ref b] s) (entryFrame m ([Value.ref b] : List Value).toArray 4) := by
  obtain ⟨hx, hb, hr0, hml, hown, hts, hX, hbl, hlocks, hgv⟩ := id C0
  obtain ⟨D, cy, hK⟩ := lw_K hts
  have hco : ∀ F : Nat, zCO l D cy (fun _ => 0) s.heap.size 8 (zexec zb0 F 8) := fun F => zexec_ok l D cy (fun _ => 0) zb0 (fun _ => ⟨Int.le_refl _, Int.le_refl _⟩) s.heap.size F 8
  obtain ⟨F1, h1, x0, y0, y1, F2, h2, x1, G, R, V, hh, js⟩ := j_start
  have m2 := (JS_room js (by omega)).2
  have z2 : h2.length ≤ 93552 ∧ zsl h2 ≤ 8821594 := ⟨by rw [hh.1]; exact Nat.le_trans m2.1 (Nat.le_of_ble_eq_true rfl), by rw [zsl_HR hh]; exact Nat.le_trans m2.2 (Nat.le_of_ble_eq_true rfl)⟩
  have hl := lv_entry ([.ref b]) (n := 4) (Nat.le_of_ble_eq_true rfl)
  rw [lg_entry_eq]
  generalize (lg_sl ([.ref b]) ++ List.replicate (4 - (lg_sl ([.ref b])).length) Slot.unset).toArray = Ls at hl ⊢
  have hl : lv_has Ls 4 [(0, .ref b)] := hl
  have hr : lwR s D cy (fun _ => 0) [] s.heap [] := ⟨rfl, fun k q h => by simp [zws] at h, va_S.rf⟩
  refine lw_new C0 hK hr (ci := 7) rfl (List.mem_of_getElem? (i := 100) (by decide +kernel)) (by decide) (by decide) dL_law_0 (fun H hr => ?_)
  refine lv_dup hx hb dL_law_3 rfl ?_
  refine lw_callI C0 hK hr (a := 0) (hco F1) zq_X7_init x0 (zpos_ok (ps := [102, 103]) (by decide +kernel)) rfl rfl rfl hl.1 (Nat.le_of_ble_eq_true rfl) (by omega) (by omega) dL_law_4 (fun H locs hr => ?_)
  refine lv_astore_n (lv' := [(1, .ref (s.heap.size + 0)), (0, .ref b)]) hx hb dL_law_7 rfl hl (by decide) rfl (fun Ls hl => ?_)
  refine lw_new C0 hK hr (ci := 8) rfl (List.mem_of_getElem? (i := 1085) (by decide +kernel)) (by omega) (by show _ + 46 ≤ _; omega) dL_law_8 (fun H hr => ?_)
  refine lv_dup hx hb dL_law_11 rfl ?_
  rw [y0]
  refine lw_callI C0 hK hr (a := 57) (hco F2) zq_X8_init x1 (zpos_ok (ps := [1086, 1087]) (by decide +kernel)) rfl rfl rfl hl.1 (Nat.le_of_ble_eq_true rfl) z2.1 z2.2 dL_law_12 (fun H locs hr => ?_)
  refine lv_astore_n (lv' := [(2, .ref (s.heap.size + 57)), (1, .ref (s.heap.size + 0)), (0, .ref b)]) hx hb dL_law_15 rfl hl (by decide) rfl (fun Ls hl => ?_)
  refine lv_iconst (v := 0) hx hb dL_law_16 (by decide) ?_
  refine lv_istore_n (lv' := [(3, .int 0), (2, .ref (s.heap.size + 57)), (1, .ref (s.heap.size + 0)), (0, .ref b)]) hx hb dL_law_17 rfl hl (by decide) rfl (fun Ls hl => ?_)
  exact lw_loop C0 hK hco hL 512 0 rfl h2 H locs Ls ⟨G, R, V, hh, js⟩ hr hl
