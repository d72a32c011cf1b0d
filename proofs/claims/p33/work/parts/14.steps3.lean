section ZU
variable {p : Program} {l : Launch} {e : Env} {R : Room} {s : State} {m : MethodId} {args : Array Value} {below : List Frame} {meth : Method} {c : Code} {Q : State → Prop}
variable {D : va_G} {cy : Nat → ClassId} {ν : Nat → Int} {bd : zB} {b nL n0 s0 own : Nat} {ini : Bool} {ret : Option FieldType} {cc : ByteArray}
theorem ok_get (C : zCx p s m args meth c D cy ν bd b nL own ini ret cc) {ix : Nat} : zOK p l e R s m args below meth c Q D cy ν b nL n0 s0 cc (.getfield ix) (hd_get (zfl own ix)) := by
  obtain ⟨hx, hb, -, hown, hK, hts, -⟩ := C
  intro pc ls st h pc' ls' st' h' hd hdec
  unfold hd_get at hd
  split at hd
  next q r =>
    split at hd
    next ci fs cj k hk ho =>
      rw [znth_eq] at hk
      cases hc : Nat.beq ci cj with
      | false => rw [hc] at hd; cases hd
      | true =>
        have e0 : ci = cj := Nat.eq_of_beq_eq_true hc
        subst e0
        rw [hc] at hd
        dsimp only [cond] at hd
        split at hd
        next v hv =>
          rw [znth_eq] at hv
          cases hd
          obtain ⟨⟨C, T, N⟩, hq, hkN, hlink⟩ := zfl_ok ho
          obtain ⟨ty, hin, -⟩ := zcls_ok ci _ hq
          refine ⟨⟨Nat.le_refl _, Nat.le_refl _⟩, fun _ _ _ _ kk H Ls locs hH hP hS hL => va_get hx hb hts hin hown hK hP q.toNat (zws_at hk) hq k hkN (hts _ hlink) (fun _ h => h) (v := zg ν b v) ?_ (zdec hdec rfl (by decide)) (kk H Ls locs hH hP hS hL)⟩
          rw [List.getElem?_map, hv]
          rfl
        next => cases hd
    next => cases hd
  next => cases hd
theorem zfit_ok {t : FieldType} {v : zV} (h : zfit (zkof t) v = true) : narrow t (zg ν b v) = zg ν b v ∧ fits t (zg ν b v) = true := by
  cases t with
  | int => rw [zg_I (show zisI v = true from h)]; exact ⟨rfl, rfl⟩
  | long => rw [zg_J (show zisJ v = true from h)]; exact ⟨rfl, rfl⟩
  | object n =>
    rw [zg_R (show zisR v = true from h)]
    cases zgR b v <;> exact ⟨rfl, rfl⟩
  | array n =>
    rw [zg_R (show zisR v = true from h)]
    cases zgR b v <;> exact ⟨rfl, rfl⟩
  | _ => cases h
theorem ok_put (C : zCx p s m args meth c D cy ν bd b nL own ini ret cc) {ix : Nat} : zOK p l e R s m args below meth c Q D cy ν b nL n0 s0 cc (.putfield ix) (hd_put zkinds zfin own ini (zfl own ix)) := by
  obtain ⟨hx, hb, -, hown, hK, hts, -, hini, -⟩ := C
  intro pc ls st h pc' ls' st' h' hd hdec
  unfold hd_put at hd
  split at hd
  next v q r =>
    split at hd
    next ci fs cj k hk ho =>
      rw [znth_eq] at hk
      cases hc : (Nat.beq ci cj && (!(zfin ci k) || (ini && Nat.beq own ci)) && Nat.blt k fs.length) with
      | false => rw [hc] at hd; cases hd
      | true =>
        rw [hc] at hd
        dsimp only [cond] at hd
        simp only [Bool.and_eq_true] at hc
        obtain ⟨⟨hc1, hc2⟩, hc3⟩ := hc
        have e0 : ci = cj := Nat.eq_of_beq_eq_true hc1
        subst e0
        have hkl : k < fs.length := by simpa [Nat.blt_eq] using hc3
        split at hd
        next t hv =>
          rw [znth_eq] at hv
          cases hf : zfit t v with
          | false => rw [hf] at hd; cases hd
          | true =>
            rw [hf] at hd
            cases hd
            obtain ⟨⟨CC, TT, N⟩, hq, hkN, hlink⟩ := zfl_ok ho
            obtain ⟨ty, hin, hty, hnm, hzR, hfl, -⟩ := zcls_ok ci _ hq
            dsimp only at hin hty hnm hzR hfl hkN hlink
            obtain ⟨hdecl, hfin, hkk⟩ := hfl k hkN
            rw [hkk] at hv
            have e1 : zkof (ty k) = t := Option.some.inj hv
            subst e1
            obtain ⟨hn, hfit⟩ := zfit_ok (ν := ν) (b := b) hf
            rw [zset_eq, zset_eq]
            have hz2 : zsl (h.set q.toNat (.inl (ci, fs.set k v))) = zsl h := zsl_set hk (by simp [zsz])
            refine ⟨⟨by rw [List.length_set]; exact Nat.le_refl _, by rw [hz2]; exact Nat.le_refl _⟩, fun _ _ _ _ kk H Ls locs hH hP hS hL => ?_⟩
            have hdg := zdec (k := 3) hdec rfl (by decide)
            have hap := va_apart (own := zR own) hts hin ty hty hnm hK hq
            obtain ⟨r', h1, cell, q1, q2, q3, q4⟩ := hP q.toNat _ (zws_at hk)
            have hr : r' = (CC, TT, N) := Option.some.inj (h1.symm.trans hq)
            subst hr
            obtain ⟨hSl, hfc, kC, hkC, hkind⟩ := hK.1 ci _ hq
            obtain ⟨cf, kf, fi, f, hi, hsl⟩ := hSl k hkN
            have hlay := hts _ (hin _ (u_in_lay hkN))
            unfold u_lay at hlay
            have hst := (u_facts hfc hkC (u_lays hts hin hkN) hi).1
            have fin : ∀ (H1 : Heap) (lc : Loc), lc.base = b + q.toNat → H1[b + q.toNat]? = some (cell.setSlot (D.2 ci k) (zg ν b v)) → H1.size = H.size → (∀ x, x ≠ b + q.toNat → H1[x]? = H[x]?) → W p l e R s m args below meth c H1 (locs ++ [lc]) (h.length - n0) (zsl h - s0) Q (F0 m (pc + 3) Ls (st'.map (zg ν b))) := by
              intro H1 lc hlc g1 g2 g3
              have k1 := kk H1 Ls (locs ++ [lc]) (by rw [List.length_set, g2]; exact hH) (zput_back (c1 := .inl (ci, fs.set k v)) hP hk ⟨_, hq, t_OB.to (V := updV (vp_V (fs.map (zg ν b))) k (zg ν b v)) ⟨_, g1, q2, q3, t_set q4 hap hkN _⟩ (fun j _ => by
                rw [vp_updV_set (by simpa using hkl)]
                show vp_V ((fs.map (zg ν b)).set k (zg ν b v)) j = vp_V ((fs.set k v).map (zg ν b)) j
                rw [List.map_set])⟩ g3) (by
                obtain ⟨lb, lsl⟩ := lc
                dsimp only at hlc
                subst hlc
                exact hS.put g2 g3 (Nat.le_add_right _ _)) hL
              rw [List.length_set, hz2] at k1
              exact k1
            cases hff : (TT k).2.2.2 with
            | false =>
              rw [if_neg (by rw [hff]; decide)] at hlay
              have h6 := u_store hfc hkC hkind hlay hi (hty k hkN) hn hfit
              refine W.putK hx hb (f := f) ⟨hown, hts _ hlink, ⟨_, _, _, hi⟩, hst⟩ (by rw [q2]; exact h6) q1 q3 (by rw [hsl]; exact k2_hasslot (q4 k hkN)) rfl rfl hdg fun H' e1 e2 e3 => ?_
              rw [hsl] at e1 ⊢
              exact fin H' ⟨b + q.toNat, D.2 ci k⟩ rfl e1 e2 e3
            | true =>
              rw [if_pos hff] at hlay
              have hio : ini = true ∧ own = ci := by
                rw [hfin, hff] at hc2
                simp only [Bool.not_true, Bool.false_or, Bool.and_eq_true] at hc2
                exact ⟨hc2.1, Nat.eq_of_beq_eq_true hc2.2⟩
              have hcf : m.cls = cf := by
                obtain ⟨_, _, c', _, _, _, -, -, hf', -, -, -, hown2, -⟩ := Cond.laysFinal_spec hlay
                have e1 : c' = cf := by have := hi.symm.trans hf'; simp at this; exact this.1.symm
                rw [hdecl, ← hzR, ← hio.2] at hown2
                rw [← e1]
                exact Option.some.inj (hown.symm.trans hown2)
              have h6 := u_fits hfc hkC hkind (Or.inr hlay) hi (hty k hkN) hn hfit
              refine W.putFinK hx hb hown (hts _ hlink) hi hst hcf (hini hio.1) (by rw [q2]; exact h6) q1 q3 (by rw [hsl]; exact k2_hasslot (q4 k hkN)) rfl rfl hdg fun H' e1 e2 e3 => ?_
              rw [hsl] at e1 ⊢
              exact fin H' ⟨b + q.toNat, D.2 ci k⟩ rfl e1 e2 e3
        next => cases hd
    next => cases hd
  next => cases hd
/-! making -/
theorem zpush {h : zH} {c1 : zC} {H H1 : Heap} {locs : List Loc} (hH : H.size = b + h.length) (hP : va_P D vwCl (zws ν b cy b h) H) (hS : va_S (fun q : Nat => b ≤ q) s.heap H locs) (e1 : va_at D vwCl (H.size, zcon ν b cy c1) H1) (z1 : H1.size = H.size + 1) (o1 : ∀ q : Nat, q < H.size → H1[q]? = H[q]?) :
    H1.size = b + (h ++ [c1]).length ∧ va_P D vwCl (zws ν b cy b (h ++ [c1])) H1 ∧ va_S (fun q : Nat => b ≤ q) s.heap H1 locs := by
  have hk : ∀ (k : Nat) (x : Nat × va_E), (zws ν b cy b h)[k]? = some x → H1[x.1]? = H[x.1]? := fun k x hx => o1 x.1 ((hP k x hx).lt)
  refine ⟨by rw [z1, hH, List.length_append]; rfl, ?_, Nat.le_trans hS.1 (by omega), fun x h1 h2 => (o1 x (Nat.lt_of_lt_of_le h1 hS.1)).trans (hS.2.1 x h1 h2), hS.2.2⟩
  rw [zws_app]
  refine (hP.kept hk).app (fun k x hx => ?_)
  have hz : k < 1 := (List.getElem?_eq_some_iff.mp hx).1
  rw [show k = 0 by omega] at hx
  cases hx
  rw [← hH]
  exact e1
theorem zdfs_ok {ks : List Nat} {ty : Nat → FieldType} {N : Nat} (h : ∀ k, k < N → ks[k]? = some (zkof (ty k))) (h2 : ks.all (fun t => Nat.ble t 2) = true) : ∀ j, j < N → defaultValue (ty j) = vp_V ((zdfs ks).map (zg ν b)) j := by
  intro j hj
  have h1 := h j hj
  have h3 : Nat.ble (zkof (ty j)) 2 = true := List.all_eq_true.mp h2 _ (List.mem_of_getElem? h1)
  unfold vp_V zdfs
  rw [List.getD_eq_getElem?_getD, List.getElem?_map, List.getElem?_map, h1]
  cases ht : ty j with
  | int => rfl
  | long => rfl
  | object n => rfl
  | array n => rfl
  | _ => rw [ht] at h3; cases h3
theorem ok_new (C : zCx p s m args meth c D cy ν bd b nL own ini ret cc) {ix : Nat} : zOK p l e R s m args below meth c Q D cy ν b nL n0 s0 cc (.new ix) (hd_new zkinds (zcl own ix)) := by
  obtain ⟨hx, hb, -, hown, hK, hts, -⟩ := C
  intro pc ls st h pc' ls' st' h' hd hdec
  unfold hd_new at hd
  split at hd
  next o ci ho =>
    rw [zfN_eq] at hd
    cases hd
    obtain ⟨⟨CC, TT, N⟩, hq, hlink⟩ := zcl_ok ho
    obtain ⟨ty, hin, hty, hnm, hzR, hfl, hlen, hle, hinst, hinit⟩ := zcls_ok ci _ hq
    dsimp only at hin hty hnm hzR hfl hlen hinst hinit hlink
    have hsz : zsz (.inl (ci, zdfs (zkinds ci))) = N := by simp [zsz, zdfs, hlen]
    refine ⟨⟨by rw [List.length_append]; exact Nat.le_add_right _ _, by rw [zsl_app]; exact Nat.le_add_right _ _⟩, fun i1 i2 i3 i4 kk H Ls locs hH hP hS hL => ?_⟩
    rw [List.length_append] at i3
    rw [zsl_app, hsz] at i4
    have hKn := hK.1 ci _ hq
    refine W.newcK hx hb hown (hts _ hlink) (hts _ hinst) (hts _ hinit) rfl (zdec hdec rfl (by decide)) (by simp at i3; omega) (by omega) hKn.2.1 rfl fun H1 kC hkC e1 z1 o1 => ?_
    obtain ⟨g1, g2, g3⟩ := zpush (c1 := .inl (ci, zdfs (zkinds ci))) hH hP hS ⟨_, hq, (u_born ty hts hin hKn hkC e1 hty).to (zdfs_ok (fun k hk => (hfl k hk).2.2) hle)⟩ z1 o1
    have k1 := kk H1 Ls locs g1 g2 g3 hL
    refine W.cs (cells' := (h ++ [(Sum.inl (ci, zdfs (zkinds ci)) : zC)]).length - n0) (slots' := zsl (h ++ [(Sum.inl (ci, zdfs (zkinds ci)) : zC)]) - s0) (by rw [List.length_append]; simp; omega) (by rw [zsl_app, hsz]; omega) ?_
    rw [hH]
    exact k1
  next => cases hd
theorem zmk_spec {n ty pc : Nat} {ls : zL} {st : List zV} {h : zH} {o : zO} (hd : zmk n ty pc ls st h = some o) : ∃ (k : Int) (len : Nat) (r : List zV), st = (0, k) :: r ∧ (Int32.ofInt k).toInt = (len : Int) ∧ len ≤ 1000000 ∧ o = .inl (pc + n, ls, (4, (h.length : Int)) :: r, h ++ [.inr (ty, len, fun _ => zdef ty)]) := by
  unfold zmk at hd
  split at hd
  next k r =>
    split at hd
    next len hlen =>
      rw [zfN_eq, zfN_eq] at hd
      cases hb : Nat.ble len 1000000 with
      | false => rw [hb] at hd; cases hd
      | true =>
        rw [hb] at hd
        exact ⟨k, len, r, rfl, hlen, Nat.le_of_ble_eq_true hb, (Option.some.inj hd).symm⟩
    next => cases hd
  next => cases hd
theorem zn_nn {x : Int32} {n : Nat} (h : x.toInt = (n : Int)) : ¬ x < 0 ∧ x.toNatClampNeg = n := by
  constructor
  · rw [Int32.lt_iff_toInt_lt, h]
    have : (0 : Int32).toInt = 0 := rfl
    omega
  · show x.toInt.toNat = n
    rw [h]; rfl
theorem zar : Cond.arrayClass .int ∈ lw_tbl ∧ Cond.arrayClass .long ∈ lw_tbl ∧ Cond.arrayClass .boolean ∈ lw_tbl := by decide +kernel
theorem ok_newa (C : zCx p s m args meth c D cy ν bd b nL own ini ret cc) {t : ArrayType} : zOK p l e R s m args below meth c Q D cy ν b nL n0 s0 cc (.newarray t) (hd_newa t) := by
  obtain ⟨hx, hb, -, hown, hK, hts, -⟩ := C
  intro pc ls st h pc' ls' st' h' hd hdec
  unfold hd_newa at hd
  have hdg := zdec (k := 2) hdec rfl (by decide)
  have main : ∀ ty, ty < 3 → newarray.typeOf t = ztya ty → (Cond.arrayClass (newarray.typeOf t)).before args s = true → (∀ (cA : ClassId) (N : Nat), vp_cell cA (zarr ν b ty N (fun _ => zdef ty)) = arrV cA N (fun _ => defaultValue (ztya ty))) → (∀ U : State, ∀ cA : ClassId, va_RA U cA (ztya ty) → U.vm.findClass ("[" ++ (ztya ty).toString) = some cA) → componentBytes (ztya ty) ≤ 8 → zmk 2 ty pc ls st h = some (.inl (pc', ls', st', h')) → (h.length ≤ h'.length ∧ zsl h ≤ zsl h') ∧ (n0 ≤ h.length → s0 ≤ zsl h → h'.length - n0 ≤ R.cells → zsl h' - s0 ≤ R.slots → zW p l e R s m args below meth c Q D cy ν b nL n0 s0 pc' ls' st' h' → zW p l e R s m args below meth c Q D cy ν b nL n0 s0 pc ls st h) := by
    intro ty hty3 hty harr hcell hRA hcb hd
    obtain ⟨k, len, r, rfl, hlen, hle, ho⟩ := zmk_spec hd
    cases ho
    have hsz : zsz (.inr (ty, len, fun _ => zdef ty)) = len := rfl
    refine ⟨⟨by rw [List.length_append]; exact Nat.le_add_right _ _, by rw [zsl_app]; exact Nat.le_add_right _ _⟩, fun i1 i2 i3 i4 kk H Ls locs hH hP hS hL => ?_⟩
    rw [List.length_append] at i3
    rw [zsl_app, hsz] at i4
    obtain ⟨hn, hN⟩ := zn_nn hlen
    refine va_newaK hx hb harr rfl hdg rfl hn hN (by rw [hty]; exact Nat.le_trans (Nat.mul_le_mul hle hcb) (by decide)) (by simp at i3; omega) (by omega) rfl fun H1 cA e1 z1 o1 hAr hNm => ?_
    have hcA : cA = cy ty := by
      have h1 := hRA s (cy ty) (hK.2 ty _ (zty_at cy (by omega))).2
      rw [hty] at hNm
      exact Option.some.inj (hNm.symm.trans h1)
    subst hcA
    obtain ⟨g1, g2, g3⟩ := zpush (c1 := .inr (ty, len, fun _ => zdef ty)) hH hP hS (show H1[H.size]? = some (vp_cell (cy ty) (zarr ν b ty len (fun _ => zdef ty))) by rw [hcell, e1, hty]) z1 o1
    have k1 := kk H1 Ls locs g1 g2 g3 hL
    refine W.cs (cells' := (h ++ [(Sum.inr (ty, len, fun _ => zdef ty) : zC)]).length - n0) (slots' := zsl (h ++ [(Sum.inr (ty, len, fun _ => zdef ty) : zC)]) - s0) (by rw [List.length_append]; simp; omega) (by rw [zsl_app, hsz]; omega) ?_
    rw [hH]
    exact k1
  cases t with
  | int => exact main 0 (by decide) rfl (hts _ zar.1) (fun _ _ => rfl) (fun _ _ h => h) (by decide) hd
  | long => exact main 1 (by decide) rfl (hts _ zar.2.1) (fun _ _ => rfl) (fun _ _ h => h) (by decide) hd
  | boolean => exact main 2 (by decide) rfl (hts _ zar.2.2) (fun _ _ => rfl) (fun _ _ h => h) (by decide) hd
  | _ => cases hd
theorem ok_anew (C : zCx p s m args meth c D cy ν bd b nL own ini ret cc) {ix : Nat} : zOK p l e R s m args below meth c Q D cy ν b nL n0 s0 cc (.anewarray ix) (hd_anew (zal own ix)) := by
  obtain ⟨hx, hb, -, hown, hK, hts, -⟩ := C
  intro pc ls st h pc' ls' st' h' hd hdec
  unfold hd_anew at hd
  have hdg := zdec (k := 3) hdec rfl (by decide)
  split at hd
  next o ty ho =>
    obtain ⟨t1, t2, hlink, hover⟩ := zal_ok ho
    obtain ⟨k, len, r, rfl, hlen, hle, hoo⟩ := zmk_spec hd
    cases hoo
    have hsz : zsz (.inr (ty, len, fun _ => zdef ty)) = len := rfl
    refine ⟨⟨by rw [List.length_append]; exact Nat.le_add_right _ _, by rw [zsl_app]; exact Nat.le_add_right _ _⟩, fun i1 i2 i3 i4 kk H Ls locs hH hP hS hL => ?_⟩
    rw [List.length_append] at i3
    rw [zsl_app, hsz] at i4
    obtain ⟨hn, hN⟩ := zn_nn hlen
    refine W.anew hx hb hown (hts _ hlink) (hts _ hover) rfl hdg rfl hn (by rw [hN]; omega) (by simp at i3; omega) (by rw [hN]; omega) fun cA kA comp f1 f2 f3 f4 => ?_
    rw [hN]
    generalize hH1 : H.push ({ cls := cA, slots := Array.replicate len .null, vm := .none } : Cell) = H1
    have z1 : H1.size = H.size + 1 := by rw [← hH1, Array.size_push]
    have e1 : H1[H.size]? = some (arrV cA len (fun _ => .null)) := by rw [← hH1, Array.getElem?_push_size, ← arrV_new]
    have o1 : ∀ q : Nat, q < H.size → H1[q]? = H[q]? := fun q hq => by rw [← hH1, Array.getElem?_push, if_neg (Nat.ne_of_lt hq)]
    have hcA : cA = cy ty ∧ vp_cell (cy ty) (zarr ν b ty len (fun _ => zdef ty)) = arrV (cy ty) len (fun _ => .null) := by
      have hra := (hK.2 ty _ (zty_at cy t2)).2
      rcases (show ty = 3 ∨ ty = 4 ∨ ty = 5 by omega) with rfl | rfl | rfl
      · obtain ⟨kA', comp', a1, a2, a3, a4⟩ := hra
        exact ⟨Option.some.inj (f1.symm.trans a4), rfl⟩
      · obtain ⟨kA', comp', a1, a2, a3, a4⟩ := hra
        exact ⟨Option.some.inj (f1.symm.trans a4), rfl⟩
      · obtain ⟨kA', comp', a1, a2, a3, a4⟩ := hra
        exact ⟨Option.some.inj (f1.symm.trans a4), rfl⟩
    obtain ⟨rfl, hcell⟩ := hcA
    obtain ⟨g1, g2, g3⟩ := zpush (c1 := .inr (ty, len, fun _ => zdef ty)) hH hP hS (show H1[H.size]? = some (vp_cell (cy ty) (zarr ν b ty len (fun _ => zdef ty))) by rw [hcell, e1]) z1 o1
    have k1 := kk H1 Ls locs g1 g2 g3 hL
    refine W.cs (cells' := (h ++ [(Sum.inr (ty, len, fun _ => zdef ty) : zC)]).length - n0) (slots' := zsl (h ++ [(Sum.inr (ty, len, fun _ => zdef ty) : zC)]) - s0) (by rw [List.length_append]; simp; omega) (by rw [zsl_app, hsz]; omega) ?_
    rw [hH]
    exact k1
  next => cases hd
theorem ok_alen (C : zCx p s m args meth c D cy ν bd b nL own ini ret cc) : zOK p l e R s m args below meth c Q D cy ν b nL n0 s0 cc .arraylength hd_alen := by
  obtain ⟨hx, hb, -, hown, hK, hts, -⟩ := C
  intro pc ls st h pc' ls' st' h' hd hdec
  unfold hd_alen at hd
  split at hd
  next q r =>
    split at hd
    next ty n f hk =>
      rw [znth_eq] at hk
      cases hb2 : (Nat.blt n 2147483648 && Nat.blt ty 6) with
      | false => rw [hb2] at hd; cases hd
      | true =>
        rw [hb2] at hd
        cases hd
        simp only [Bool.and_eq_true, Nat.blt_eq] at hb2
        refine ⟨⟨Nat.le_refl _, Nat.le_refl _⟩, fun _ _ _ _ k H Ls locs hH hP hS hL => va_alen hx hb hK hP q.toNat ty (zws_at hk) (zty_at cy hb2.2) ?_ (zdec hdec rfl (by decide)) (k H Ls locs hH hP hS hL)⟩
        have e1 : (zarr ν b ty n f).1 = n := by
          unfold zarr
          split <;> rfl
        rw [e1]
        rfl
    next => cases hd
  next => cases hd
theorem ok_aast (C : zCx p s m args meth c D cy ν bd b nL own ini ret cc) : zOK p l e R s m args below meth c Q D cy ν b nL n0 s0 cc .aastore (hd_aast zel) := by
  obtain ⟨hx, hb, -, hown, hK, hts, -⟩ := C
  intro pc ls st h pc' ls' st' h' hd hdec
  unfold hd_aast at hd
  split at hd
  next v x q r =>
    split at hd
    next ty n f hk =>
      rw [znth_eq] at hk
      split at hd
      next ci fs hv =>
        rw [znth_eq] at hv
        cases ht : (Nat.blt 2 ty && Nat.blt ty 6 && Nat.beq (zel ty) ci) with
        | false => rw [ht] at hd; cases hd
        | true =>
          rw [ht] at hd
          dsimp only [cond] at hd
          simp only [Bool.and_eq_true, Nat.blt_eq] at ht
          obtain ⟨⟨t1, t2⟩, t3⟩ := ht
          have e0 : zel ty = ci := Nat.eq_of_beq_eq_true t3
          subst e0
          split at hd
          next j hj =>
            obtain ⟨j1, j2, j3⟩ := zix_spec hj
            cases hd
            rw [zset_eq]
            have hz2 : zsl (h.set q.toNat (.inr (ty, n, zupd f j (4, v)))) = zsl h := zsl_set hk rfl
            refine ⟨⟨by rw [List.length_set]; exact Nat.le_refl _, by rw [hz2]; exact Nat.le_refl _⟩, fun _ _ _ _ k H Ls locs hH hP hS hL => ?_⟩
            have ha := zws_at (ν := ν) (b := b) (cy := cy) (k := b) hk
            obtain ⟨r', hr', cellV, g1, g2, g3, -⟩ := hP v.toNat _ (zws_at hv)
            have hcls := (hK.1 (zel ty) r' hr').2
            have hra := (hK.2 ty _ (zty_at cy t2)).2
            have hx3 : ∃ (kA : Class) (CN : String), s.vm.classes[cy ty]? = some kA ∧ kA.kind = .array (D.1 (zel ty)) (.object CN) ∧ zcon ν b cy (.inr (ty, n, f)) = .inl (cy ty, n, .inr (.inr (.inr (.inr (fun j => zgR b (f j)))))) ∧ zarr ν b ty n (zupd f j (4, v)) = (n, .inr (.inr (.inr (.inr (fun y => zgR b (zupd f j (4, v) y)))))) := by
              rcases (show ty = 3 ∨ ty = 4 ∨ ty = 5 by omega) with rfl | rfl | rfl
              · obtain ⟨kA', comp', a1, a2, a3, a4⟩ := hra
                have : r'.1 = RX5 := by cases hr'; rfl
                rw [this] at hcls
                have hc : comp' = D.1 (zel 3) := Option.some.inj (a3.symm.trans hcls.1)
                subst hc
                exact ⟨kA', _, a1, a2, rfl, rfl⟩
              · obtain ⟨kA', comp', a1, a2, a3, a4⟩ := hra
                have : r'.1 = RX2 := by cases hr'; rfl
                rw [this] at hcls
                have hc : comp' = D.1 (zel 4) := Option.some.inj (a3.symm.trans hcls.1)
                subst hc
                exact ⟨kA', _, a1, a2, rfl, rfl⟩
              · obtain ⟨kA', comp', a1, a2, a3, a4⟩ := hra
                have : r'.1 = RX1 := by cases hr'; rfl
                rw [this] at hcls
                have hc : comp' = D.1 (zel 5) := Option.some.inj (a3.symm.trans hcls.1)
                subst hc
                exact ⟨kA', _, a1, a2, rfl, rfl⟩
            obtain ⟨kA, CN, k1, k2, ec, ea⟩ := hx3
            rw [ec] at ha
            obtain ⟨kC, hkC, -⟩ := hcls.2
            subst j2
            refine W.aast (t := .object CN) hx hb (hP q.toNat _ ha) (fun q h => by cases h) (fun h => by cases h) k1 k2 rfl hkC ⟨fun q => j1 (Or.inl q), by show _ < (arrV _ _ _).slots.size; rw [arrV_size]; exact j3⟩ g1 (fun q h => by rw [g3] at h; cases h) (by rw [g2]; exact hkC) (by rw [g2]; exact va_assign hcls) rfl rfl (zdec hdec rfl (by decide)) fun H1 e z oq => ?_
            have k3 := k H1 Ls (locs ++ [⟨b + q.toNat, (Int32.ofInt x).toNatClampNeg⟩]) (by rw [List.length_set, z]; exact hH) (zput_back hP hk (show H1[b + q.toNat]? = some (vp_cell (cy ty) (zarr ν b ty n _)) by
              rw [ea, e, zupd_R]
              show some ((vp_cell (cy ty) (n, .inr (.inr (.inr (.inr (fun y => zgR b (f y))))))).setSlot _ _) = some (vp_cell (cy ty) (n, .inr (.inr (.inr (.inr _)))))
              rw [vp_cell_q, vp_cell_q, arrV_store]
              congr 2
              funext y
              by_cases hq : y = (Int32.ofInt x).toNatClampNeg
              · subst hq; simp [updV, va_up, va_rf, zgR]
              · simp [updV, va_up, hq]) oq) (hS.put z oq (Nat.le_add_right _ _)) hL
            rw [List.length_set, hz2] at k3
            exact k3
          next => cases hd
      next => cases hd
    next => cases hd
  next => cases hd
end ZU
