/-! the heaps of a group's data, in its cells -/
section
variable {G : List gS} {R V : gV} {T : gT} {W : gV} {L : Int → Int} {I : Int → gD} {B M S N g b x p n o m y : Nat} {C D E K : Int} {mul : Int → Int → Int} {U : Int → Int}
theorem lk_hf {d : gD} (lk : lkT T R g d) (th : TH T V) (hx : hsX d) : hfX (d 0 1) (fun s t => d (2 + s) t) V (g + 10) := by
  have e0 : V (g + 10) 0 = d 0 2 := lk.2.2.2.2.2.2.1 _ (th (g + 10) 0)
  have e1 : ∀ i, V (g + 10 + 1) i = d 201 i := fun i => lk.2.2.2.2.2.2.2.2.1 1 (by omega) (by omega) (by omega) i _ (th (g + 10 + 1) i)
  have e2 : ∀ i, V (g + 10 + 2) i = d 202 i := fun i => lk.2.2.2.2.2.2.2.2.1 2 (by omega) (by omega) (by omega) i _ (th (g + 10 + 2) i)
  have e3 : ∀ i, V (g + 10 + 3) i = d 203 i := fun i => lk.2.2.2.2.2.2.2.2.1 3 (by omega) (by omega) (by omega) i _ (th (g + 10 + 3) i)
  have eh : hR V (g + 10) = hsD d := by
    funext k t
    show bt (V (g + 10 + 1) k) (V (g + 10 + 2) k) t = bt (d 201 k) (d 202 k) t
    rw [e1, e2]
  have es : (fun k => V (g + 10 + 3) k) = fun k => d 203 k := funext e3
  unfold hfX
  rw [e0, eh, es]
  exact ⟨hx.1, hx.2.1, hx.2.2.1⟩
end
