/-! both answer alike -/
section
variable {G : List gS} {R V : gV} {k : Nat}
theorem msf_L {n s p : Int} (s0 : 0 ≤ s ∧ s < 4) (p0 : 0 ≤ p) : msf V 57 n s p = if p < n ∧ p < mL V s then mL V (100 + 8 * s + p) else p := by
  unfold msf shp
  rw [mL_s (by omega), show 100 + 8 * s + p = 100 + (8 * s + p) by omega, mL_100 (by omega)]
  by_cases y : p < n
  · rw [if_pos y]
    by_cases z : p < V 59 s
    · rw [if_pos z, if_pos ⟨y, z⟩]
    · rw [if_neg z, if_neg (fun q => z q.2)]
  · rw [if_neg y, if_neg (fun q => y q.1)]
theorem j_group (h : JS G R V k) (hk : k < 512) {x1 : Int} (h1 : i32 x1) : jR (qE (gAX (msf V 57 x1) x1)) (qE (gAX (msf V 57 x1) x1)) k 105 181 [(0, x1)] G R V := by
  refine jp h hk (L' := mL V) (I' := fun i => V 85 i) (fun c => ?_) (fun G1 R1 V1 ly m vr l i => ?_)
  · refine cw_mono (by omega) (group_X c h1 (sf := msf V 57 x1) (fun s p s0 s1 p0 p1 => msf_L ⟨s0, s1⟩ p0)) (fun r G' R' V' q => ?_)
    obtain ⟨v, q1, q2, q3⟩ := q
    rw [q1, gAX_e q2]
    exact ⟨rfl, CI_N q3 (by omega)⟩
  · refine cwv_mono (by omega) (mgroup_c ly m vr h1) (fun r V' q => ?_)
    obtain ⟨v, q1, q2, q3⟩ := q
    have e : msf V1 57 x1 = msf V 57 x1 := by
      funext s p
      unfold msf shp
      rw [l _ _ (by omega) (by omega), l _ _ (by omega) (by omega)]
    have ga := gmX_ans q2
    rw [e] at ga
    rw [q1, gAX_e ga]
    exact ⟨rfl, jm q3 l i⟩
end
