section ZT
variable {p : Program} {l : Launch} {e : Env} {R : Room} {s : State} {m : MethodId} {args : Array Value} {below : List Frame} {meth : Method} {c : Code} {Q : State → Prop}
variable {D : va_G} {cy : Nat → ClassId} {ν : Nat → Int} {bd : zB} {b nL n0 s0 own : Nat} {ini : Bool} {ret : Option FieldType} {cc : ByteArray}
def zP (k : Jvm.ClassFile.Cond) (x y : Int32) : Prop := match k with
  | .eq => x = y
  | .ne => ¬ x = y
  | .lt => x < y
  | .ge => y ≤ x
  | .gt => y < x
  | .le => x ≤ y
theorem znot {o : Option Bool} {r : Bool} (h : o.map not = some r) : o = some (!r) := by
  cases o with
  | none => cases h
  | some x => cases x <;> cases r <;> simp_all
theorem zcmp_spec {k : Jvm.ClassFile.Cond} {u v : Int × Int} {r : Bool} {x y : Int32} (h : zcmp k u v = some r) (hx : u.1 ≤ x.toInt ∧ x.toInt ≤ u.2) (hy : v.1 ≤ y.toInt ∧ y.toInt ≤ v.2) : zP k x y = (r = true) := by
  cases k with
  | eq =>
    have := zeq_spec h hx hy
    show (x = y) = _
    rw [← this, Int32.toInt_inj]
  | ne =>
    have := zeq_spec (znot h) hx hy
    show (¬ x = y) = _
    rw [Int32.toInt_inj] at this
    rw [this]
    cases r <;> simp
  | lt =>
    have := zlt_spec h hx hy
    show (x < y) = _
    rw [← this, Int32.lt_iff_toInt_lt]
  | ge =>
    have := zlt_spec (znot h) hx hy
    show (y ≤ x) = _
    rw [Int32.le_iff_toInt_le, ← Int.not_lt, this]
    cases r <;> simp
  | gt =>
    have := zlt_spec h hy hx
    show (y < x) = _
    rw [← this, Int32.lt_iff_toInt_lt]
  | le =>
    have := zlt_spec (znot h) hy hx
    show (x ≤ y) = _
    rw [Int32.le_iff_toInt_le, ← Int.not_lt, this]
    cases r <;> simp
theorem ok_if (C : zCx p s m args meth c D cy ν bd b nL own ini ret cc) {k : Jvm.ClassFile.Cond} {off : Int} : zOK p l e R s m args below meth c Q D cy ν b nL n0 s0 cc (.ifCond k off) (hd_if bd k off) := by
  obtain ⟨hx, hb, -, -, -, -, -, -, -, hν, -⟩ := C
  intro pc ls st h pc' ls' st' h' hd hdec
  unfold hd_if at hd
  split at hd
  next v r =>
    split at hd
    next u hu =>
      obtain ⟨e1, a1, a2⟩ := zrI_spec (b := b) hν hu
      refine zbr_ok (P := zP k (zgI ν v) 0) rfl hd hdec (fun x hx => zcmp_spec hx ⟨a1, a2⟩ (by decide)) (fun hdg ht kt kf => ?_)
      rw [List.map_cons, e1]
      cases k with
      | eq => exact lv_if_eq hx hb hdg ht kt kf
      | ne => exact lv_if_ne hx hb hdg ht kt (fun q => kf (fun n => n q))
      | lt => exact lv_if_lt hx hb hdg ht kt kf
      | ge => exact lv_if_ge hx hb hdg ht kt kf
      | gt => exact lv_if_gt hx hb hdg ht kt kf
      | le => exact lv_if_le hx hb hdg ht kt kf
    next => cases hd
  next => cases hd
theorem ok_icmp (C : zCx p s m args meth c D cy ν bd b nL own ini ret cc) {k : Jvm.ClassFile.Cond} {off : Int} : zOK p l e R s m args below meth c Q D cy ν b nL n0 s0 cc (.if_icmp k off) (hd_icmp bd k off) := by
  obtain ⟨hx, hb, -, -, -, -, -, -, -, hν, -⟩ := C
  intro pc ls st h pc' ls' st' h' hd hdec
  unfold hd_icmp at hd
  split at hd
  next y x r =>
    split at hd
    next u w hu hw =>
      obtain ⟨e1, a1, a2⟩ := zrI_spec (b := b) hν hu
      obtain ⟨e2, b1, b2⟩ := zrI_spec (b := b) hν hw
      refine zbr_ok (P := zP k (zgI ν x) (zgI ν y)) rfl hd hdec (fun z hz => zcmp_spec hz ⟨a1, a2⟩ ⟨b1, b2⟩) (fun hdg ht kt kf => ?_)
      rw [List.map_cons, List.map_cons, e1, e2]
      cases k with
      | eq => exact lv_icmp_eq hx hb hdg ht kt kf
      | ne => exact lv_icmp_ne hx hb hdg ht kt (fun q => kf (fun n => n q))
      | lt => exact lv_icmp_lt hx hb hdg ht kt kf
      | ge => exact lv_icmp_ge hx hb hdg ht kt kf
      | gt => exact lv_icmp_gt hx hb hdg ht kt kf
      | le => exact lv_icmp_le hx hb hdg ht kt kf
    next => cases hd
  next => cases hd
theorem zsame_spec {x y : zV} (hx : zisR x = true) (hy : zisR y = true) : (zgR b x = zgR b y) = (zsame x y = true) := by
  obtain ⟨t, a⟩ := x
  obtain ⟨u, d⟩ := y
  match t, u with
  | 0, _ => cases hx
  | 1, _ => cases hx
  | 2, _ => cases hx
  | 3, _ => cases hx
  | _ + 4, 0 => cases hy
  | _ + 4, 1 => cases hy
  | _ + 4, 2 => cases hy
  | _ + 4, 3 => cases hy
  | 4, 4 =>
    simp only [zgR, zsame, Option.some.injEq, Nat.add_left_cancel_iff, eq_iff_iff]
    exact ⟨fun h => by rw [h]; exact Nat.beq_refl _, fun h => Nat.eq_of_beq_eq_true h⟩
  | 4, n + 5 => simp [zgR, zsame]
  | n + 5, 4 => simp [zgR, zsame]
  | n + 5, k + 5 => simp [zgR, zsame]
theorem ok_acmp (C : zCx p s m args meth c D cy ν bd b nL own ini ret cc) {k : ACond} {off : Int} : zOK p l e R s m args below meth c Q D cy ν b nL n0 s0 cc (.if_acmp k off) (hd_acmp k off) := by
  obtain ⟨hx, hb, -⟩ := C
  intro pc ls st h pc' ls' st' h' hd hdec
  unfold hd_acmp at hd
  split at hd
  next y x r =>
    cases ht : (zisR x && zisR y) with
    | false => rw [ht] at hd; cases hd
    | true =>
      rw [ht] at hd
      simp only [Bool.and_eq_true] at ht
      have hs := zsame_spec (b := b) ht.1 ht.2
      cases k with
      | eq =>
        replace hd : zbr (some (zsame x y)) pc off ls r h = some (.inl (pc', ls', st', h')) := hd
        refine zbr_ok (P := zgR b x = zgR b y) rfl hd hdec (fun z hz => by cases hz; exact hs) (fun hdg htt kt kf => ?_)
        rw [List.map_cons, List.map_cons, zg_R ht.1, zg_R ht.2]
        exact lv_acmp_eq hx hb hdg htt kt kf
      | ne =>
        replace hd : zbr (some (!zsame x y)) pc off ls r h = some (.inl (pc', ls', st', h')) := hd
        refine zbr_ok (P := ¬ zgR b x = zgR b y) rfl hd hdec (fun z hz => by cases hz; rw [hs]; cases zsame x y <;> simp) (fun hdg htt kt kf => ?_)
        rw [List.map_cons, List.map_cons, zg_R ht.1, zg_R ht.2]
        exact lv_acmp_ne hx hb hdg htt kt (fun q => kf (fun n => n q))
  next => cases hd
theorem ok_null (C : zCx p s m args meth c D cy ν bd b nL own ini ret cc) {off : Int} : zOK p l e R s m args below meth c Q D cy ν b nL n0 s0 cc (.ifnull off) (hd_null true off) := by
  obtain ⟨hx, hb, -⟩ := C
  intro pc ls st h pc' ls' st' h' hd hdec
  unfold hd_null at hd
  split at hd
  next v r =>
    cases ht : zisR v with
    | false => rw [ht] at hd; cases hd
    | true =>
      rw [ht] at hd
      dsimp only [cond] at hd
      split at hd
      next hv =>
        refine zbr_ok (P := False) rfl hd hdec (fun z hz => by cases hz; simp) (fun hdg htt kt kf => ?_)
        rw [List.map_cons]
        have : zg ν b v = .ref (b + v.2.toNat) := by unfold zg; rw [hv]; rfl
        rw [this]
        exact lv_ifnull hx hb hdg (kf id)
      next hv =>
        refine zbr_ok (P := True) rfl hd hdec (fun z hz => by cases hz; simp) (fun hdg htt kt kf => ?_)
        rw [List.map_cons, zg_R ht]
        have : zgR b v = none := by
          unfold zgR
          split
          next h4 => exact absurd h4 hv
          next => rfl
        rw [this]
        exact lv_ifnullN hx hb hdg htt (kt trivial)
  next => cases hd
theorem ok_nonnull (C : zCx p s m args meth c D cy ν bd b nL own ini ret cc) {off : Int} : zOK p l e R s m args below meth c Q D cy ν b nL n0 s0 cc (.ifnonnull off) (hd_null false off) := by
  obtain ⟨hx, hb, -⟩ := C
  intro pc ls st h pc' ls' st' h' hd hdec
  unfold hd_null at hd
  split at hd
  next v r =>
    cases ht : zisR v with
    | false => rw [ht] at hd; cases hd
    | true =>
      rw [ht] at hd
      dsimp only [cond] at hd
      split at hd
      next hv =>
        refine zbr_ok (P := True) rfl hd hdec (fun z hz => by cases hz; simp) (fun hdg htt kt kf => ?_)
        rw [List.map_cons]
        have : zg ν b v = .ref (b + v.2.toNat) := by unfold zg; rw [hv]; rfl
        rw [this]
        exact lv_ifnonnull hx hb hdg htt (kt trivial)
      next hv =>
        refine zbr_ok (P := False) rfl hd hdec (fun z hz => by cases hz; simp) (fun hdg htt kt kf => ?_)
        rw [List.map_cons, zg_R ht]
        have : zgR b v = none := by
          unfold zgR
          split
          next h4 => exact absurd h4 hv
          next => rfl
        rw [this]
        exact lv_ifnonnullN hx hb hdg (kf id)
  next => cases hd
theorem ok_table (C : zCx p s m args meth c D cy ν bd b nL own ini ret cc) {d lo hi : Int} {offs : Array Int} : zOK p l e R s m args below meth c Q D cy ν b nL n0 s0 cc (.tableswitch d lo hi offs) (hd_table bd d lo hi offs) := by
  obtain ⟨hx, hb, -, -, -, -, -, -, -, hν, -⟩ := C
  intro pc ls st h pc' ls' st' h' hd hdec
  obtain ⟨n, hn, -⟩ := hdec
  unfold hd_table at hd
  split at hd
  next i r =>
    split at hd
    next q hq =>
      obtain ⟨e1, a1, a2⟩ := zrI_spec (b := b) hν hq
      cases ht : (decide (q.2 < lo) || decide (hi < q.1)) with
      | false => rw [ht] at hd; cases hd
      | true =>
        rw [ht] at hd
        obtain ⟨t, htt, ho⟩ := zjmp_spec hd
        cases ho
        simp only [Bool.or_eq_true, decide_eq_true_eq] at ht
        refine ⟨⟨Nat.le_refl _, Nat.le_refl _⟩, fun _ _ _ _ k H Ls locs hH hP hS hL => ?_⟩
        rw [List.map_cons, e1]
        exact lv_tableOut hx hb hn (by rcases ht with h | h; exact Or.inl (by omega); exact Or.inr (by omega)) htt (k H Ls locs hH hP hS hL)
    next => cases hd
  next a r =>
    rw [zfI_eq] at hd
    cases ht : (decide ((Int32.ofInt a).toInt < lo) || decide (hi < (Int32.ofInt a).toInt)) with
    | true =>
      rw [ht] at hd
      obtain ⟨t, htt, ho⟩ := zjmp_spec hd
      cases ho
      simp only [Bool.or_eq_true, decide_eq_true_eq] at ht
      exact ⟨⟨Nat.le_refl _, Nat.le_refl _⟩, fun _ _ _ _ k H Ls locs hH hP hS hL => lv_tableOut hx hb hn ht htt (k H Ls locs hH hP hS hL)⟩
    | false =>
      rw [ht] at hd
      dsimp only [cond] at hd
      split at hd
      next off hoff =>
        obtain ⟨t, htt, ho⟩ := zjmp_spec hd
        cases ho
        simp only [Bool.or_eq_false_iff, decide_eq_false_iff_not] at ht
        exact ⟨⟨Nat.le_refl _, Nat.le_refl _⟩, fun _ _ _ _ k H Ls locs hH hP hS hL => lv_tableIn hx hb hn ht.1 ht.2 hoff htt (k H Ls locs hH hP hS hL)⟩
      next => cases hd
  next => cases hd
/-! rows -/
theorem ok_ald {i : Instr} {tt : Nat → Bool} {t : zV → Bool} (hz : zlen i = 1) (row : ∀ {H : Heap} {locs : List Loc} {cells slots pc : Nat} {Ls : Array Slot} {rest : List Value} {h : zH} {ty n k j : Nat} {f : Nat → zV} {x : Int}, tt ty = true → h[k]? = some (.inr (ty, n, f)) → va_P D vwCl (zws ν b cy b h) H → vp_in (Int32.ofInt x) n → (Int32.ofInt x).toNatClampNeg = j → t (f j) = true → decode cc pc = .ok (i, 1) → W p l e R s m args below meth c H locs cells slots Q (F0 m (pc + 1) Ls (zg ν b (f j) :: rest)) → W p l e R s m args below meth c H locs cells slots Q (F0 m pc Ls (.int (Int32.ofInt x) :: .ref (b + k) :: rest))) : zOK p l e R s m args below meth c Q D cy ν b nL n0 s0 cc i (hd_ald tt t) := by
  intro pc ls st h pc' ls' st' h' hd hdec
  unfold hd_ald at hd
  split at hd
  next x q r =>
    split at hd
    next ty n f hk =>
      rw [znth_eq] at hk
      cases ht : tt ty with
      | false => rw [ht] at hd; cases hd
      | true =>
        rw [ht] at hd
        dsimp only [cond] at hd
        split at hd
        next j hj =>
          obtain ⟨j1, j2, -⟩ := zix_spec hj
          cases hf : t (f j) with
          | false => rw [hf] at hd; cases hd
          | true =>
            rw [hf] at hd
            cases hd
            exact ⟨⟨Nat.le_refl _, Nat.le_refl _⟩, fun _ _ _ _ k H Ls locs hH hP hS hL => row ht hk hP j1 j2 hf (zdec hdec hz (by decide)) (k H Ls locs hH hP hS hL)⟩
        next => cases hd
    next => cases hd
  next => cases hd
theorem ok_iald (C : zCx p s m args meth c D cy ν bd b nL own ini ret cc) : zOK p l e R s m args below meth c Q D cy ν b nL n0 s0 cc .iaload (hd_ald (fun t => Nat.beq t 0) zisI) := by
  obtain ⟨hx, hb, -, -, hK, -⟩ := C
  refine ok_ald rfl ?_
  intro H locs cells slots pc Ls rest h ty n k j f x ht hk hP j1 j2 hf hdg kk
  have e0 : ty = 0 := Nat.eq_of_beq_eq_true ht
  subst e0
  refine va_iald hx hb hK hP k 0 (zws_at hk) (zty_at cy (by decide)) j1 hdg ?_
  rw [zg_I hf, ← j2] at kk
  exact kk
theorem ok_lald (C : zCx p s m args meth c D cy ν bd b nL own ini ret cc) : zOK p l e R s m args below meth c Q D cy ν b nL n0 s0 cc .laload (hd_ald (fun t => Nat.beq t 1) zisJ) := by
  obtain ⟨hx, hb, -, -, hK, -⟩ := C
  refine ok_ald rfl ?_
  intro H locs cells slots pc Ls rest h ty n k j f x ht hk hP j1 j2 hf hdg kk
  have e0 : ty = 1 := Nat.eq_of_beq_eq_true ht
  subst e0
  refine va_lald hx hb hK hP k 1 (zws_at hk) (zty_at cy (by decide)) j1 hdg ?_
  rw [zg_J hf, ← j2] at kk
  exact kk
theorem zbit_I {v : zV} (h : zbit v = true) : zisI v = true := by
  unfold zbit at h
  split at h
  next => rfl
  next => cases h
theorem ok_zald (C : zCx p s m args meth c D cy ν bd b nL own ini ret cc) : zOK p l e R s m args below meth c Q D cy ν b nL n0 s0 cc .baload (hd_ald (fun t => Nat.beq t 2) zbit) := by
  obtain ⟨hx, hb, -, -, hK, -⟩ := C
  refine ok_ald rfl ?_
  intro H locs cells slots pc Ls rest h ty n k j f x ht hk hP j1 j2 hf hdg kk
  have e0 : ty = 2 := Nat.eq_of_beq_eq_true ht
  subst e0
  refine va_zald hx hb hK hP k 2 (zws_at hk) (zty_at cy (by decide)) j1 hdg ?_
  rw [zg_I (zbit_I hf), ← j2] at kk
  exact kk
theorem z345 {ty : Nat} (h : (Nat.blt 2 ty && Nat.blt ty 6) = true) : ty = 3 ∨ ty = 4 ∨ ty = 5 := by
  simp only [Bool.and_eq_true, Nat.blt_eq] at h
  omega
theorem ok_aald (C : zCx p s m args meth c D cy ν bd b nL own ini ret cc) : zOK p l e R s m args below meth c Q D cy ν b nL n0 s0 cc .aaload (hd_ald (fun t => Nat.blt 2 t && Nat.blt t 6) zisR) := by
  obtain ⟨hx, hb, -, -, hK, -⟩ := C
  refine ok_ald rfl ?_
  intro H locs cells slots pc Ls rest h ty n k j f x ht hk hP j1 j2 hf hdg kk
  rw [zg_R hf, ← j2] at kk
  rcases z345 ht with rfl | rfl | rfl
  · exact va_aldq hx hb hK hP k 3 (zws_at hk) (zty_at cy (by decide)) j1 hdg kk
  · exact va_aldq hx hb hK hP k 4 (zws_at hk) (zty_at cy (by decide)) j1 hdg kk
  · exact va_aldq hx hb hK hP k 5 (zws_at hk) (zty_at cy (by decide)) j1 hdg kk
theorem zput_back {h : zH} {k : Nat} {c0 c1 : zC} {H H1 : Heap} (hP : va_P D vwCl (zws ν b cy b h) H) (hk : h[k]? = some c0) (e1 : va_at D vwCl (b + k, zcon ν b cy c1) H1) (oq : ∀ q : Nat, q ≠ b + k → H1[q]? = H[q]?) : va_P D vwCl (zws ν b cy b (h.set k c1)) H1 := by
  rw [← zws_set]
  exact hP.set (zws_D ν b cy h) (zws_at hk) e1 oq
theorem ok_ast {i : Instr} {tt : Nat → Bool} {t : zV → Bool} (hz : zlen i = 1) (row : ∀ {H : Heap} {locs : List Loc} {cells slots pc : Nat} {Ls : Array Slot} {rest : List Value} {h : zH} {ty n k j : Nat} {f : Nat → zV} {x : Int} {v : zV}, tt ty = true → t v = true → h[k]? = some (.inr (ty, n, f)) → va_P D vwCl (zws ν b cy b h) H → vp_in (Int32.ofInt x) n → (Int32.ofInt x).toNatClampNeg = j → decode cc pc = .ok (i, 1) → (∀ H1 : Heap, H1[b + k]? = some (vp_cell (cy ty) (zarr ν b ty n (zupd f j v))) → H1.size = H.size → (∀ q : Nat, q ≠ b + k → H1[q]? = H[q]?) → W p l e R s m args below meth c H1 (locs ++ [⟨b + k, j⟩]) cells slots Q (F0 m (pc + 1) Ls rest)) → W p l e R s m args below meth c H locs cells slots Q (F0 m pc Ls (zg ν b v :: .int (Int32.ofInt x) :: .ref (b + k) :: rest))) : zOK p l e R s m args below meth c Q D cy ν b nL n0 s0 cc i (hd_ast tt t) := by
  intro pc ls st h pc' ls' st' h' hd hdec
  unfold hd_ast at hd
  split at hd
  next v x q r =>
    split at hd
    next ty n f hk =>
      rw [znth_eq] at hk
      cases ht : (tt ty && t v) with
      | false => rw [ht] at hd; cases hd
      | true =>
        rw [ht] at hd
        simp only [Bool.and_eq_true] at ht
        dsimp only [cond] at hd
        split at hd
        next j hj =>
          obtain ⟨j1, j2, -⟩ := zix_spec hj
          cases hd
          rw [zset_eq]
          have hz2 : zsl (h.set q.toNat (.inr (ty, n, zupd f j v))) = zsl h := zsl_set hk rfl
          refine ⟨⟨by rw [List.length_set]; exact Nat.le_refl _, by rw [hz2]; exact Nat.le_refl _⟩, fun _ _ _ _ k H Ls locs hH hP hS hL => row ht.1 ht.2 hk hP j1 j2 (zdec hdec hz (by decide)) (fun H1 f1 f2 f3 => ?_)⟩
          have k1 := k H1 Ls (locs ++ [⟨b + q.toNat, j⟩]) (by rw [List.length_set, f2]; exact hH) (zput_back hP hk f1 f3) (hS.put f2 f3 (Nat.le_add_right _ _)) hL
          rw [List.length_set, hz2] at k1
          exact k1
        next => cases hd
    next => cases hd
  next => cases hd
theorem ok_iast (C : zCx p s m args meth c D cy ν bd b nL own ini ret cc) : zOK p l e R s m args below meth c Q D cy ν b nL n0 s0 cc .iastore (hd_ast (fun t => Nat.beq t 0) zisI) := by
  obtain ⟨hx, hb, -, -, hK, -⟩ := C
  refine ok_ast rfl ?_
  intro H locs cells slots pc Ls rest h ty n k j f x v ht hv hk hP j1 j2 hdg kk
  have e0 : ty = 0 := Nat.eq_of_beq_eq_true ht
  subst e0
  subst j2
  rw [zg_I hv]
  have ha := zws_at (ν := ν) (b := b) (cy := cy) (k := b) hk
  refine W.iast hx hb (hP k _ ha) ((hK.2 0 _ (zty_at cy (by decide))).1 n (fun j => .int (zgI ν (f j)))) (fun q => by cases q) (by show ¬ (_ ∨ (arrV _ _ _).slots.size ≤ _); rw [arrV_size]; exact j1) rfl rfl hdg fun H1 e z oq => kk H1 ?_ z oq
  show H1[b + k]? = some (vp_cell (cy 0) (n, .inl (fun y => zgI ν (zupd f _ v y))))
  rw [e, zupd_I]
  show some ((vp_cell (cy 0) (n, .inl (fun y => zgI ν (f y)))).setSlot _ _) = some (vp_cell (cy 0) (n, .inl _))
  rw [vp_cell_i, vp_cell_i, arrV_store]
  congr 2
  funext q
  by_cases hq : q = (Int32.ofInt x).toNatClampNeg
  · subst hq; simp [updV, upd]
  · simp [updV, upd, hq]
theorem ok_last (C : zCx p s m args meth c D cy ν bd b nL own ini ret cc) : zOK p l e R s m args below meth c Q D cy ν b nL n0 s0 cc .lastore (hd_ast (fun t => Nat.beq t 1) zisJ) := by
  obtain ⟨hx, hb, -, -, hK, -⟩ := C
  refine ok_ast rfl ?_
  intro H locs cells slots pc Ls rest h ty n k j f x v ht hv hk hP j1 j2 hdg kk
  have e0 : ty = 1 := Nat.eq_of_beq_eq_true ht
  subst e0
  subst j2
  rw [zg_J hv]
  have ha := zws_at (ν := ν) (b := b) (cy := cy) (k := b) hk
  refine W.last hx hb (hP k _ ha) ((hK.2 1 _ (zty_at cy (by decide))).1 n (fun j => .long (zgJ ν (f j)))) (fun q => by cases q) (by show ¬ (_ ∨ (arrV _ _ _).slots.size ≤ _); rw [arrV_size]; exact j1) rfl rfl hdg fun H1 e z oq => kk H1 ?_ z oq
  show H1[b + k]? = some (vp_cell (cy 1) (n, .inr (.inl (fun y => zgJ ν (zupd f _ v y)))))
  rw [e, zupd_J]
  show some ((vp_cell (cy 1) (n, .inr (.inl (fun y => zgJ ν (f y))))).setSlot _ _) = some (vp_cell (cy 1) (n, .inr (.inl _)))
  rw [vp_cell_l, vp_cell_l, arrV_store]
  congr 2
  funext q
  by_cases hq : q = (Int32.ofInt x).toNatClampNeg
  · subst hq; simp [updV, vp_updL]
  · simp [updV, vp_updL, hq]
theorem zbit_nar {v : zV} (h : zbit v = true) : narrow .boolean (.int (zgI ν v)) = .int (zgI ν v) := by
  unfold zbit at h
  split at h
  next a =>
    simp only [Bool.or_eq_true, decide_eq_true_eq] at h
    rcases h with h | h
    · show narrow .boolean (.int (Int32.ofInt a)) = .int (Int32.ofInt a)
      rw [h]; decide
    · show narrow .boolean (.int (Int32.ofInt a)) = .int (Int32.ofInt a)
      rw [h]; decide
  next => cases h
theorem ok_zast (C : zCx p s m args meth c D cy ν bd b nL own ini ret cc) : zOK p l e R s m args below meth c Q D cy ν b nL n0 s0 cc .bastore (hd_ast (fun t => Nat.beq t 2) zbit) := by
  obtain ⟨hx, hb, -, -, hK, -⟩ := C
  refine ok_ast rfl ?_
  intro H locs cells slots pc Ls rest h ty n k j f x v ht hv hk hP j1 j2 hdg kk
  have e0 : ty = 2 := Nat.eq_of_beq_eq_true ht
  subst e0
  subst j2
  rw [zg_I (zbit_I hv)]
  have ha := zws_at (ν := ν) (b := b) (cy := cy) (k := b) hk
  refine W.zast hx hb (hP k _ ha) ((hK.2 2 _ (zty_at cy (by decide))).1 n (fun j => .int (zgI ν (f j)))) (fun q => by cases q) (by show ¬ (_ ∨ (arrV _ _ _).slots.size ≤ _); rw [arrV_size]; exact j1) rfl rfl hdg fun H1 e z oq => kk H1 ?_ z oq
  rw [zbit_nar hv] at e
  show H1[b + k]? = some (vp_cell (cy 2) (n, .inl (fun y => zgI ν (zupd f _ v y))))
  rw [e, zupd_I]
  show some ((vp_cell (cy 2) (n, .inl (fun y => zgI ν (f y)))).setSlot _ _) = some (vp_cell (cy 2) (n, .inl _))
  rw [vp_cell_i, vp_cell_i, arrV_store]
  congr 2
  funext q
  by_cases hq : q = (Int32.ofInt x).toNatClampNeg
  · subst hq; simp [updV, upd]
  · simp [updV, upd, hq]
end ZT
