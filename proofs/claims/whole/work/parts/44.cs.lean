-- what the class's own scratch is (Plan's best, left, order, best, row, carriers)
def isCs (i : Nat) : Bool := Nat.beq i 9 || (Nat.ble 32 i && Nat.ble i 36)
def Cs (M M' : WM) : Prop := (∀ i, isCs i = false → wg M' i = wg M i) ∧ M'.2 = M.2
def lay (M M' : WM) : WM := (fun i k => bif isCs i then M'.1 i k else M.1 i k, M.2)
section CSX
variable {M M' : WM}
theorem Cs.eq (h : Cs M M') : M' = lay M M' := by
  refine Prod.ext ?_ h.2
  funext i k
  show M'.1 i k = bif isCs i then M'.1 i k else M.1 i k
  cases q : isCs i with
  | true => rfl
  | false => exact congrFun (h.1 i q) k
theorem Cs.Good_ (h : Cs M M') (g : Good M) : Good M' := by
  rw [h.eq]
  exact g
theorem Cs.GoodT_ (h : Cs M M') (g : GoodT M) : GoodT M' := by
  rw [h.eq]
  exact g
theorem Cs.rf (M : WM) : Cs M M := ⟨fun _ _ => rfl, rfl⟩
theorem Cs.tr {M1 M2 M3 : WM} (h : Cs M1 M2) (k : Cs M2 M3) : Cs M1 M3 := ⟨fun i hi => (k.1 i hi).trans (h.1 i hi), k.2.trans h.2⟩
theorem Cs.set {i k : Nat} {v : Int32} (h : isCs i = true) : Cs M (wset M i k v) := by
  refine ⟨fun a ha => wg_row_ne (fun q => ?_), rfl⟩
  rw [q, h] at ha
  cases ha
end CSX
