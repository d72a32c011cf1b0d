section LZ
variable {p : Program} {e : Env} {s : State} {m : MethodId} {below : List Frame} {meth : Method} {c : Code} {l : Launch} {b L : Nat} {xs : Nat → Int32} {D : va_G} {cy : Nat → ClassId} {ν : Nat → Int}
theorem lw_fin (C0 : lw_At p s m meth c b L xs) {H : Heap} {locs : List Loc} {h : zH} (hr : lwR s D cy ν h H locs) (hz1 : h.length ≤ 10000) (hz2 : zsl h ≤ 3000000) {Ls : Array Slot} : W p l e room_1 s m #[Value.ref b] below meth c H locs h.length (zsl h) (lw_Z below #[Value.ref b] s) (F0 m 1330 Ls []) := by
  obtain ⟨hx, hb, hr0, hml, hown, hts, hX, hbl, hlocks, hgv⟩ := C0
  refine lv_iconst (v := 1) hx hb dL_law_1330 (by decide) ?_
  refine va_forget (fun q hq => hr.2.2.2.2 q hq) ?_
  refine W.widen (k := 600000) (n := 7302250) (by omega) (by omega) ?_
  exact lw_ret hx hb hr0 hlocks dL_law_1331
theorem lw_tail (C0 : lw_At p s m meth c b L xs) (hL : L = 5) {H : Heap} {locs : List Loc} {h : zH} (hr : lwR s D cy ν h H locs) (hz1 : h.length ≤ 10000) (hz2 : zsl h ≤ 3000000) {Ls : Array Slot} (hl : lv_has Ls 4 (lwl b s.heap.size lM (nI 0))) : W p l e room_1 s m #[Value.ref b] below meth c H locs h.length (zsl h) (lw_Z below #[Value.ref b] s) (F0 m 1324 Ls []) := by
  obtain ⟨hx, hb, hr0, hml, hown, hts, hX, hbl, hlocks, hgv⟩ := id C0
  refine lv_iinc (v := 5) (lv' := [(3, .int 5), (2, .ref (s.heap.size + lM)), (1, .ref (s.heap.size + 0)), (0, .ref b)]) hx hb dL_law_1324 hl (k := 0) rfl (by decide) (by decide) rfl (fun Ls hl => ?_)
  refine lv_goto (tgt := 18) hx hb dL_law_1327 (by decide) ?_
  refine lv_iload_n hx hb dL_law_18 rfl (lv_at hl 0 rfl) ?_
  refine lv_aload_n hx hb dL_law_19 rfl (lv_at hl 3 rfl) ?_
  refine va_slen (A := fun q : Nat => s.heap.size ≤ q) hx hb hX hbl (Nat.not_le.mpr hbl) hr.2.2 dL_law_20 ?_
  refine lv_iconst (v := 5) hx hb dL_law_21 (by decide) ?_
  refine lv_isub hx hb dL_law_22 ?_
  subst hL
  refine lv_icmp_gt (tgt := 1330) hx hb dL_law_23 (by decide) (fun _ => lw_fin C0 hr hz1 hz2) (fun hn => absurd (by decide) hn)
theorem lw_cy (hts : ∀ w ∈ lw_tbl, w.before #[Value.ref b] s = true) : ∃ cy : Nat → ClassId, ∀ t, t < 6 → ArrOfT s (cy t) (ztya t) ∧ va_RA s (cy t) (ztya t) := by
  have prim : ∀ ty : FieldType, (Cond.arrayClass ty) ∈ lw_tbl → ∃ cA kA comp, s.vm.findClass ("[" ++ ty.toString) = some cA ∧ s.vm.classes[cA]? = some kA ∧ kA.kind = .array comp ty := fun ty hm => Cond.arrayClass_spec (hts _ hm)
  have refs : ∀ C : String, (Cond.arrayOver (.object C)) ∈ lw_tbl → ∃ (cA : ClassId) (kA : Class) (comp : ClassId), s.vm.classes[cA]? = some kA ∧ kA.kind = .array comp (.object C) ∧ s.vm.findClass C = some comp ∧ s.vm.findClass ("[" ++ (FieldType.object C).toString) = some cA := by
    intro C hm
    obtain ⟨comp, cA, kA, h1, h2, h3, h4, h5⟩ := Cond.arrayOver_spec (hts _ hm)
    exact ⟨cA, kA, comp, h3, h4, h1, h5⟩
  obtain ⟨c0, k0, m0, a0, b0, d0⟩ := prim .int zar.1
  obtain ⟨c1, k1, m1, a1, b1, d1⟩ := prim .long zar.2.1
  obtain ⟨c2, k2, m2, a2, b2, d2⟩ := prim .boolean zar.2.2
  obtain ⟨c3, k3, m3, a3, b3, d3, e3⟩ := refs RX5 (by decide +kernel)
  obtain ⟨c4, k4, m4, a4, b4, d4, e4⟩ := refs RX2 (by decide +kernel)
  obtain ⟨c5, k5, m5, a5, b5, d5, e5⟩ := refs RX1 (by decide +kernel)
  refine ⟨fun t => match t with
    | 0 => c0
    | 1 => c1
    | 2 => c2
    | 3 => c3
    | 4 => c4
    | _ => c5, fun t ht => ?_⟩
  match t, ht with
  | 0, _ => exact ⟨fun n z => ⟨fun k h => (by cases h), k0, b0, m0, d0⟩, a0⟩
  | 1, _ => exact ⟨fun n z => ⟨fun k h => (by cases h), k1, b1, m1, d1⟩, a1⟩
  | 2, _ => exact ⟨fun n z => ⟨fun k h => (by cases h), k2, b2, m2, d2⟩, a2⟩
  | 3, _ => exact ⟨fun n z => ⟨fun k h => (by cases h), k3, a3, m3, b3⟩, k3, m3, a3, b3, d3, e3⟩
  | 4, _ => exact ⟨fun n z => ⟨fun k h => (by cases h), k4, a4, m4, b4⟩, k4, m4, a4, b4, d4, e4⟩
  | 5, _ => exact ⟨fun n z => ⟨fun k h => (by cases h), k5, a5, m5, b5⟩, k5, m5, a5, b5, d5, e5⟩
end LZ
set_option maxHeartbeats 4000000 in
set_option maxRecDepth 100000 in
theorem lw_K {s : State} {b : Nat} (hts : ∀ w ∈ lw_tbl, w.before #[Value.ref b] s = true) : ∃ (D : va_G) (cy : Nat → ClassId), va_K D vwCl (zty cy) s := by
  obtain ⟨cy, hcy⟩ := lw_cy hts
  have kn : ∀ (ci : Nat) (q : vw_C), vwCl[ci]? = some q → ∃ (cC : ClassId) (iS : Nat → Nat), u_Kn s q.1 q.2.1 q.2.2 cC iS := by
    intro ci q hq
    obtain ⟨ty, hin, -, -, -, -, -, -, hinst, -⟩ := zcls_ok ci q hq
    exact u_known hts hin (hts _ hinst)
  have kn2 : ∀ ci : Nat, ∃ (cC : ClassId) (iS : Nat → Nat), ∀ q : vw_C, vwCl[ci]? = some q → u_Kn s q.1 q.2.1 q.2.2 cC iS := by
    intro ci
    cases hq : vwCl[ci]? with
    | none => exact ⟨0, fun _ => 0, fun q h => by cases h⟩
    | some q =>
      obtain ⟨cC, iS, h⟩ := kn ci q hq
      exact ⟨cC, iS, fun q' h' => by cases h'; exact h⟩
  refine ⟨(fun ci => Classical.choose (kn2 ci), fun ci => Classical.choose (Classical.choose_spec (kn2 ci))), cy, fun ci q hq => Classical.choose_spec (Classical.choose_spec (kn2 ci)) q hq, fun k q hk => ?_⟩
  have hlt : k < 6 := (List.getElem?_eq_some_iff.mp hk).1
  rw [zty_at cy hlt] at hk
  cases hk
  exact hcy k hlt
set_option maxHeartbeats 4000000 in
set_option maxRecDepth 100000 in
theorem whole_start {p : Program} {e : Env} {s : State} {m : MethodId} {below : List Frame} {meth : Method} {c : Code} (l : Launch) {b L : Nat} {xs : Nat → Int32} (hL : L ≤ 5) (C0 : lw_At p s m meth c b L xs) : W p l e room_1 s m #[Value.ref b] below meth c s.heap [] 0 0 (lw_Z below #[Value.ref b] s) (entryFrame m ([Value.ref b] : List Value).toArray 4) := by
  obtain ⟨hx, hb, hr0, hml, hown, hts, hX, hbl, hlocks, hgv⟩ := id C0
  obtain ⟨D, cy, hK⟩ := lw_K hts
  obtain ⟨j0, hj0, hop⟩ := pk_andE (xs 0) (m := 63) 6 (by decide)
  generalize har : (fun j : Nat => if j = 1 ∧ j0 = 27 then (((xs 1).toInt64 <<< ((32 : Int32).toInt64 &&& 63)) ||| ((xs 2).toInt64 &&& 4294967295) : Int64).toInt else (xs j).toInt) = ar
  have har1 : ∀ j, ¬ (j = 1 ∧ j0 = 27) → ar j = (xs j).toInt := fun j h => by rw [← har]; exact if_neg h
  have har2 : j0 = 27 → ar 1 = (((xs 1).toInt64 <<< ((32 : Int32).toInt64 &&& 63)) ||| ((xs 2).toInt64 &&& 4294967295) : Int64).toInt := fun h => by rw [← har]; exact if_pos ⟨rfl, h⟩
  generalize hν : lnu ar = ν
  have hnu : ∀ i, (lbd i).1 ≤ ν i ∧ ν i ≤ (lbd i).2 := fun i => by rw [← hν]; exact lnu_ok ar i
  have hco : zCO l D cy ν s.heap.size 8 (zexec lbd lF 8) := zexec_ok l D cy ν lbd hnu s.heap.size lF 8
  obtain ⟨x0, y0⟩ := lopt (o := zexec lbd lF 8 102 [(4, 0)] [.inl (7, zdfs (zkinds 7))]) (P := fun h => Nat.ble h.length 1000 && Nat.ble (zsl h) 1000000) lx0_ok
  obtain ⟨x1, y1⟩ := lopt (o := zexec lbd lF 8 179 [(4, (lM : Int))] (lx0 ++ [.inl (8, zdfs (zkinds 8))])) (P := fun h => Nat.ble h.length 1000 && Nat.ble (zsl h) 1000000 && (match znth h 0, znth h lM with
    | some (.inl (7, _)), some (.inl (8, _)) => true
    | _, _ => false)) lx1_ok
  replace x0 : zexec lbd lF 8 102 [(4, ((0 : Nat) : Int))] [.inl (7, zdfs (zkinds 7))] = some (none, lx0) := x0
  replace y0 : (Nat.ble lx0.length 1000 && Nat.ble (zsl lx0) 1000000) = true := y0
  replace x1 : zexec lbd lF 8 179 [(4, (lM : Int))] (lx0 ++ [.inl (8, zdfs (zkinds 8))]) = some (none, lx1) := x1
  replace y1 : (Nat.ble lx1.length 1000 && Nat.ble (zsl lx1) 1000000 && (match znth lx1 0, znth lx1 lM with
    | some (.inl (7, _)), some (.inl (8, _)) => true
    | _, _ => false)) = true := y1
  simp only [Bool.and_eq_true] at y0 y1
  obtain ⟨y2, y3⟩ := y0
  obtain ⟨⟨y4, y5⟩, y6⟩ := y1
  have w2 := Nat.le_of_ble_eq_true y2
  have w3 := Nat.le_of_ble_eq_true y3
  have w4 := Nat.le_of_ble_eq_true y4
  have w5 := Nat.le_of_ble_eq_true y5
  obtain ⟨f0, f1, g0, g1⟩ : ∃ f0 f1, lx1[0]? = some (.inl (7, f0)) ∧ lx1[lM]? = some (.inl (8, f1)) := by
    split at y6
    next f0 f1 h0 h1 =>
      rw [znth_eq] at h0 h1
      exact ⟨f0, f1, h0, h1⟩
    next => cases y6
  have hl := lv_entry ([.ref b]) (n := 4) (Nat.le_of_ble_eq_true rfl)
  rw [lg_entry_eq]
  generalize (lg_sl ([.ref b]) ++ List.replicate (4 - (lg_sl ([.ref b])).length) Slot.unset).toArray = Ls at hl ⊢
  have hl : lv_has Ls 4 [(0, .ref b)] := hl
  have hr : lwR s D cy ν [] s.heap [] := ⟨rfl, fun k q h => by simp [zws] at h, va_S.rf⟩
  refine lw_new C0 hK hr (ci := 7) rfl (List.mem_of_getElem? (i := 100) (by decide +kernel)) (by decide) (by decide) dL_law_0 (fun H hr => ?_)
  refine lv_dup hx hb dL_law_3 rfl ?_
  refine lw_callI C0 hK hr (a := 0) hco zq_X7_init x0 (zpos_ok (ps := [102, 103]) (by decide +kernel)) rfl rfl rfl hl.1 (Nat.le_of_ble_eq_true rfl) (by omega) (by omega) dL_law_4 (fun H locs hr => ?_)
  refine lv_astore_n (lv' := [(1, .ref (s.heap.size + 0)), (0, .ref b)]) hx hb dL_law_7 rfl hl (by decide) rfl (fun Ls hl => ?_)
  refine lw_new C0 hK hr (ci := 8) rfl (List.mem_of_getElem? (i := 1085) (by decide +kernel)) (by omega) (by show _ + 46 ≤ _; omega) dL_law_8 (fun H hr => ?_)
  refine lv_dup hx hb dL_law_11 rfl ?_
  refine lw_callI C0 hK hr (a := lM) hco zq_X8_init x1 (zpos_ok (ps := [1086, 1087]) (by decide +kernel)) rfl rfl rfl hl.1 (Nat.le_of_ble_eq_true rfl) (by omega) (by omega) dL_law_12 (fun H locs hr => ?_)
  refine lv_astore_n (lv' := [(2, .ref (s.heap.size + lM)), (1, .ref (s.heap.size + 0)), (0, .ref b)]) hx hb dL_law_15 rfl hl (by decide) rfl (fun Ls hl => ?_)
  refine lv_iconst (v := 0) hx hb dL_law_16 (by decide) ?_
  refine lv_istore_n (lv' := [(3, .int 0), (2, .ref (s.heap.size + lM)), (1, .ref (s.heap.size + 0)), (0, .ref b)]) hx hb dL_law_17 rfl hl (by decide) rfl (fun Ls hl => ?_)
  refine lv_iload_n hx hb dL_law_18 rfl (lv_at hl 0 rfl) ?_
  refine lv_aload_n hx hb dL_law_19 rfl (lv_at hl 3 rfl) ?_
  refine va_slen (A := fun q : Nat => s.heap.size ≤ q) hx hb hX hbl (Nat.not_le.mpr hbl) hr.2.2 dL_law_20 ?_
  refine lv_iconst (v := 5) hx hb dL_law_21 (by decide) ?_
  refine lv_isub hx hb dL_law_22 ?_
  by_cases hL5 : L = 5
  · have hl' : lv_has Ls 4 (lwl b s.heap.size lM (nI 0)) := hl
    refine lv_icmp_gt (tgt := 1330) hx hb dL_law_23 (by decide) (fun hn => absurd hn (by rw [hL5]; decide)) (fun _ => ?_)
    refine lv_aload_n hx hb dL_law_26 rfl (lv_at hl 3 rfl) ?_
    refine lv_iload_n hx hb dL_law_27 rfl (lv_at hl 0 rfl) ?_
    refine va_sld (A := fun q : Nat => s.heap.size ≤ q) hx hb hX hbl (Nat.not_le.mpr hbl) hr.2.2 (i := 0) (by rw [hL5]; unfold vp_in; decide) dL_law_28 ?_
    refine lv_bipush (v := 63) hx hb dL_law_29 (by decide) ?_
    refine lv_iand hx hb dL_law_31 ?_
    refine W.eq (g2 := F0 m 32 Ls [.int (nI j0)]) (by rw [← hop]; rfl) ?_
    have kk : ∀ (H : Heap) (locs : List Loc) (h : zH), lwR s D cy ν h H locs → h.length ≤ 10000 → zsl h ≤ 3000000 → W p l e room_1 s m #[Value.ref b] below meth c H locs h.length (zsl h) (lw_Z below #[Value.ref b] s) (F0 m 1324 Ls []) := fun H locs h hr z1 z2 => lw_tail C0 hL5 hr z1 z2 hl'
    subst hν
    by_cases h35 : j0 < 35
    · revert har1 har2
      match j0, h35 with
      | 0, _ =>
        intro har1 har2
        refine lv_tableIn (tgt := 188) hx hb dL_law_32 (by decide) (by decide) (by rfl) (by decide) ?_
        obtain ⟨as, h1, h2⟩ := las_sheet (ar := ar) s.heap.size (har1 1 (by decide)) (har1 2 (by decide)) (har1 3 (by decide))
        exact lwc_sheet C0 hK hco h1 h2 (f1 := []) g0 hL5 hr hl' kk
      | 1, _ =>
        intro har1 har2
        refine lv_tableIn (tgt := 231) hx hb dL_law_32 (by decide) (by decide) (by rfl) (by decide) ?_
        obtain ⟨as, h1, h2⟩ := las_write (ar := ar) s.heap.size (har1 1 (by decide)) (har1 2 (by decide)) (har1 3 (by decide))
        exact lwc_write C0 hK hco h1 h2 (f1 := []) g0 hL5 hr hl' kk
      | 2, _ =>
        intro har1 har2
        refine lv_tableIn (tgt := 274) hx hb dL_law_32 (by decide) (by decide) (by rfl) (by decide) ?_
        obtain ⟨as, h1, h2⟩ := las_group (ar := ar) s.heap.size (har1 1 (by decide))
        exact lwc_group C0 hK hco h1 h2 (f1 := []) g0 hL5 hr hl' kk
      | 3, _ =>
        intro har1 har2
        refine lv_tableIn (tgt := 297) hx hb dL_law_32 (by decide) (by decide) (by rfl) (by decide) ?_
        obtain ⟨as, h1, h2⟩ := las_count (ar := ar) s.heap.size (har1 1 (by decide))
        exact lwc_count C0 hK hco h1 h2 (f1 := []) g0 hL5 hr hl' kk
      | 4, _ =>
        intro har1 har2
        refine lv_tableIn (tgt := 320) hx hb dL_law_32 (by decide) (by decide) (by rfl) (by decide) ?_
        obtain ⟨as, h1, h2⟩ := las_turn (ar := ar) s.heap.size (har1 1 (by decide)) (har1 2 (by decide))
        exact lwc_turn C0 hK hco h1 h2 (f1 := []) g0 hL5 hr hl' kk
      | 5, _ =>
        intro har1 har2
        refine lv_tableIn (tgt := 353) hx hb dL_law_32 (by decide) (by decide) (by rfl) (by decide) ?_
        obtain ⟨as, h1, h2⟩ := las_product (ar := ar) s.heap.size (har1 1 (by decide)) (har1 2 (by decide))
        exact lwc_product C0 hK hco h1 h2 (f1 := []) g0 hL5 hr hl' kk
      | 6, _ =>
        intro har1 har2
        refine lv_tableIn (tgt := 386) hx hb dL_law_32 (by decide) (by decide) (by rfl) (by decide) ?_
        obtain ⟨as, h1, h2⟩ := las_ofTurn (ar := ar) s.heap.size (har1 1 (by decide)) (har1 2 (by decide))
        exact lwc_ofTurn C0 hK hco h1 h2 (f1 := []) g0 hL5 hr hl' kk
      | 7, _ =>
        intro har1 har2
        refine lv_tableIn (tgt := 419) hx hb dL_law_32 (by decide) (by decide) (by rfl) (by decide) ?_
        obtain ⟨as, h1, h2⟩ := las_heap (ar := ar) s.heap.size (har1 1 (by decide)) (har1 2 (by decide))
        exact lwc_heap C0 hK hco h1 h2 (f1 := []) g0 hL5 hr hl' kk
      | 8, _ =>
        intro har1 har2
        refine lv_tableIn (tgt := 452) hx hb dL_law_32 (by decide) (by decide) (by rfl) (by decide) ?_
        obtain ⟨as, h1, h2⟩ := las_has (ar := ar) s.heap.size (har1 1 (by decide)) (har1 2 (by decide))
        exact lwc_has C0 hK hco h1 h2 (f1 := []) g0 hL5 hr hl' kk
      | 9, _ =>
        intro har1 har2
        refine lv_tableIn (tgt := 485) hx hb dL_law_32 (by decide) (by decide) (by rfl) (by decide) ?_
        obtain ⟨as, h1, h2⟩ := las_join (ar := ar) s.heap.size (har1 1 (by decide)) (har1 2 (by decide)) (har1 3 (by decide))
        exact lwc_join C0 hK hco h1 h2 (f1 := []) g0 hL5 hr hl' kk
      | 10, _ =>
        intro har1 har2
        refine lv_tableIn (tgt := 528) hx hb dL_law_32 (by decide) (by decide) (by rfl) (by decide) ?_
        obtain ⟨as, h1, h2⟩ := las_ofClass (ar := ar) s.heap.size (har1 1 (by decide)) (har1 2 (by decide))
        exact lwc_ofClass C0 hK hco h1 h2 (f1 := []) g0 hL5 hr hl' kk
      | 11, _ =>
        intro har1 har2
        refine lv_tableIn (tgt := 561) hx hb dL_law_32 (by decide) (by decide) (by rfl) (by decide) ?_
        obtain ⟨as, h1, h2⟩ := las_within (ar := ar) s.heap.size (har1 1 (by decide)) (har1 2 (by decide)) (har1 3 (by decide))
        exact lwc_within C0 hK hco h1 h2 (f1 := []) g0 hL5 hr hl' kk
      | 12, _ =>
        intro har1 har2
        refine lv_tableIn (tgt := 604) hx hb dL_law_32 (by decide) (by decide) (by rfl) (by decide) ?_
        obtain ⟨as, h1, h2⟩ := las_table (ar := ar) s.heap.size (har1 1 (by decide)) (har1 2 (by decide))
        exact lwc_table C0 hK hco h1 h2 (f1 := []) g0 hL5 hr hl' kk
      | 13, _ =>
        intro har1 har2
        refine lv_tableIn (tgt := 637) hx hb dL_law_32 (by decide) (by decide) (by rfl) (by decide) ?_
        obtain ⟨as, h1, h2⟩ := las_sylow (ar := ar) s.heap.size (har1 1 (by decide))
        exact lwc_sylow C0 hK hco h1 h2 (f1 := []) g0 hL5 hr hl' kk
      | 14, _ =>
        intro har1 har2
        refine lv_tableIn (tgt := 660) hx hb dL_law_32 (by decide) (by decide) (by rfl) (by decide) ?_
        obtain ⟨as, h1, h2⟩ := las_down (ar := ar) s.heap.size (har1 1 (by decide))
        exact lwc_down C0 hK hco h1 h2 (f1 := []) g0 hL5 hr hl' kk
      | 15, _ =>
        intro har1 har2
        refine lv_tableIn (tgt := 683) hx hb dL_law_32 (by decide) (by decide) (by rfl) (by decide) ?_
        obtain ⟨as, h1, h2⟩ := las_simple (ar := ar) s.heap.size 
        exact lwc_simple C0 hK hco h1 h2 (f1 := []) g0 hL5 hr hl' kk
      | 16, _ =>
        intro har1 har2
        refine lv_tableIn (tgt := 696) hx hb dL_law_32 (by decide) (by decide) (by rfl) (by decide) ?_
        obtain ⟨as, h1, h2⟩ := las_coset (ar := ar) s.heap.size (har1 1 (by decide)) (har1 2 (by decide))
        exact lwc_coset C0 hK hco h1 h2 (f1 := []) g0 hL5 hr hl' kk
      | 17, _ =>
        intro har1 har2
        refine lv_tableIn (tgt := 730) hx hb dL_law_32 (by decide) (by decide) (by rfl) (by decide) ?_
        obtain ⟨as, h1, h2⟩ := las_places (ar := ar) s.heap.size (har1 1 (by decide)) (har1 2 (by decide)) (har1 3 (by decide))
        exact lwc_places C0 hK hco h1 h2 (f1 := []) g0 hL5 hr hl' kk
      | 18, _ =>
        intro har1 har2
        refine lv_tableIn (tgt := 774) hx hb dL_law_32 (by decide) (by decide) (by rfl) (by decide) ?_
        obtain ⟨as, h1, h2⟩ := las_heaps (ar := ar) s.heap.size (har1 1 (by decide))
        exact lwc_heaps C0 hK hco h1 h2 (f1 := []) g0 hL5 hr hl' kk
      | 19, _ =>
        intro har1 har2
        refine lv_tableIn (tgt := 798) hx hb dL_law_32 (by decide) (by decide) (by rfl) (by decide) ?_
        obtain ⟨as, h1, h2⟩ := las_both (ar := ar) s.heap.size (har1 1 (by decide)) (har1 2 (by decide)) (har1 3 (by decide)) (har1 4 (by decide))
        exact lwc_both C0 hK hco h1 h2 (f1 := []) g0 hL5 hr hl' kk
      | 20, _ =>
        intro har1 har2
        refine lv_tableIn (tgt := 852) hx hb dL_law_32 (by decide) (by decide) (by rfl) (by decide) ?_
        obtain ⟨as, h1, h2⟩ := las_colour (ar := ar) s.heap.size (har1 1 (by decide)) (har1 2 (by decide)) (har1 3 (by decide))
        exact lwc_colour C0 hK hco h1 h2 (f1 := []) g0 hL5 hr hl' kk
      | 21, _ =>
        intro har1 har2
        refine lv_tableIn (tgt := 896) hx hb dL_law_32 (by decide) (by decide) (by rfl) (by decide) ?_
        obtain ⟨as, h1, h2⟩ := las_many (ar := ar) s.heap.size (har1 1 (by decide)) (har1 2 (by decide)) (har1 3 (by decide))
        exact lwc_many C0 hK hco h1 h2 (f1 := []) g0 hL5 hr hl' kk
      | 22, _ =>
        intro har1 har2
        refine lv_tableIn (tgt := 940) hx hb dL_law_32 (by decide) (by decide) (by rfl) (by decide) ?_
        obtain ⟨as, h1, h2⟩ := las_parts (ar := ar) s.heap.size (har1 1 (by decide)) (har1 2 (by decide))
        exact lwc_parts C0 hK hco h1 h2 (f1 := []) g0 hL5 hr hl' kk
      | 23, _ =>
        intro har1 har2
        refine lv_tableIn (tgt := 974) hx hb dL_law_32 (by decide) (by decide) (by rfl) (by decide) ?_
        obtain ⟨as, h1, h2⟩ := las_mark (ar := ar) s.heap.size (har1 1 (by decide)) (har1 2 (by decide))
        exact lwc_mark C0 hK hco h1 h2 (f1 := []) g0 hL5 hr hl' kk
      | 24, _ =>
        intro har1 har2
        refine lv_tableIn (tgt := 1008) hx hb dL_law_32 (by decide) (by decide) (by rfl) (by decide) ?_
        obtain ⟨as, h1, h2⟩ := las_act (ar := ar) s.heap.size (har1 1 (by decide)) (har1 2 (by decide)) (har1 3 (by decide))
        exact lwc_act C0 hK hco h1 h2 (f1 := []) g0 hL5 hr hl' kk
      | 25, _ =>
        intro har1 har2
        refine lv_tableIn (tgt := 1052) hx hb dL_law_32 (by decide) (by decide) (by rfl) (by decide) ?_
        obtain ⟨as, h1, h2⟩ := las_same (ar := ar) s.heap.size (har1 1 (by decide)) (har1 2 (by decide))
        exact lwc_same C0 hK hco h1 h2 (f1 := []) g0 hL5 hr hl' kk
      | 26, _ =>
        intro har1 har2
        refine lv_tableIn (tgt := 1085) hx hb dL_law_32 (by decide) (by decide) (by rfl) (by decide) ?_
        obtain ⟨as, h1, h2⟩ := las_maps (ar := ar) s.heap.size (har1 1 (by decide)) (har1 2 (by decide)) (har1 3 (by decide))
        exact lwc_maps C0 hK hco h1 h2 (f1 := []) g0 hL5 hr hl' kk
      | 27, _ =>
        intro har1 har2
        refine lv_tableIn (tgt := 1129) hx hb dL_law_32 (by decide) (by decide) (by rfl) (by decide) ?_
        obtain ⟨as, h1, h2⟩ := las_row (ar := ar) s.heap.size (har2 rfl)
        exact lwc_row C0 hK hco h1 h2 (f1 := []) g0 hL5 hr hl' kk
      | 28, _ =>
        intro har1 har2
        refine lv_tableIn (tgt := 1182) hx hb dL_law_32 (by decide) (by decide) (by rfl) (by decide) ?_
        obtain ⟨as, h1, h2⟩ := las_check (ar := ar) s.heap.size (har1 1 (by decide))
        exact lwc_check C0 hK hco h1 h2 (f1 := []) g0 hL5 hr hl' kk
      | 29, _ =>
        intro har1 har2
        refine lv_tableIn (tgt := 1205) hx hb dL_law_32 (by decide) (by decide) (by rfl) (by decide) ?_
        obtain ⟨as, h1, h2⟩ := las_misfit (ar := ar) s.heap.size 
        exact lwc_misfit C0 hK hco h1 h2 (f1 := []) g0 hL5 hr hl' kk
      | 30, _ =>
        intro har1 har2
        refine lv_tableIn (tgt := 1218) hx hb dL_law_32 (by decide) (by decide) (by rfl) (by decide) ?_
        obtain ⟨as, h1, h2⟩ := las_chance (ar := ar) s.heap.size (har1 1 (by decide)) (har1 2 (by decide))
        exact lwc_chance C0 hK hco h1 h2 (f1 := []) g0 hL5 hr hl' kk
      | 31, _ =>
        intro har1 har2
        refine lv_tableIn (tgt := 1252) hx hb dL_law_32 (by decide) (by decide) (by rfl) (by decide) ?_
        obtain ⟨as, h1, h2⟩ := las_rank (ar := ar) s.heap.size 
        exact lwc_rank C0 hK hco h1 h2 (f1 := []) g0 hL5 hr hl' kk
      | 32, _ =>
        intro har1 har2
        refine lv_tableIn (tgt := 1265) hx hb dL_law_32 (by decide) (by decide) (by rfl) (by decide) ?_
        obtain ⟨as, h1, h2⟩ := las_image (ar := ar) s.heap.size (har1 1 (by decide))
        exact lwc_image C0 hK hco h1 h2 (f1 := []) g0 hL5 hr hl' kk
      | 33, _ =>
        intro har1 har2
        refine lv_tableIn (tgt := 1288) hx hb dL_law_32 (by decide) (by decide) (by rfl) (by decide) ?_
        obtain ⟨as, h1, h2⟩ := las_back (ar := ar) s.heap.size (har1 1 (by decide))
        exact lwc_back C0 hK hco h1 h2 (f1 := []) g0 hL5 hr hl' kk
      | 34, _ =>
        intro har1 har2
        refine lv_tableIn (tgt := 1311) hx hb dL_law_32 (by decide) (by decide) (by rfl) (by decide) ?_
        obtain ⟨as, h1, h2⟩ := las_status (ar := ar) s.heap.size 
        exact lwc_status C0 hK hco h1 h2 (f1 := []) g0 hL5 hr hl' kk
      | k + 35, h => exact absurd h (by omega)
    · refine lv_tableOut (tgt := 1324) hx hb dL_law_32 (Or.inr (by rw [nI_toInt (by omega)]; omega)) (by decide) ?_
      exact kk H locs lx1 hr (by omega) (by omega)
  · refine lv_icmp_gt (tgt := 1330) hx hb dL_law_23 (by decide) (fun _ => lw_fin C0 hr (by omega) (by omega)) (fun hn => absurd ?_ hn)
    rcases (show L = 0 ∨ L = 1 ∨ L = 2 ∨ L = 3 ∨ L = 4 by omega) with rfl | rfl | rfl | rfl | rfl <;> decide
