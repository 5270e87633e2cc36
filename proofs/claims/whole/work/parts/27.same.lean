-- the class and the reference answer alike, and what held holds again
def Same (G : GG) (j j' : Nat) (As : List Value) (M : WM) : Prop := Fr G 40 j (.ref 0 :: As) M (fun q M1 => ∃ r, q = some (.int r) ∧ Fr G 40 j' (.ref 39 :: As) M1 (fun q2 M2 => q2 = some (.int r) ∧ GoodT M2))
theorem Sc.GoodT_ {M M' : WM} (h : Sc M M') (g : GoodT M) : GoodT M' := ⟨h.Good_ g.1, by
  show M'.2 11 = M'.2 39
  rw [h.2.2]; exact g.2⟩
theorem Same.pure {G : GG} {j j' : Nat} {As : List Value} {M : WM} {x : Int32} (hg : GoodT M) (h : Fn G 40 j (.ref 0 :: As) M (some (.int x)) M) (k : Fr G 40 j' (.ref 39 :: As) M (AnsS M x)) : Same G j j' As M :=
  Fr_mono (fun q M1 e => by
    obtain ⟨rfl, rfl⟩ := e
    exact ⟨x, rfl, Fr_mono (fun q2 M2 e2 => ⟨e2.1, e2.2.GoodT_ hg⟩) k⟩) h
theorem AnsS.of {G : GG} {d j : Nat} {As : List Value} {M : WM} {x : Int32} (h : Fn G d j As M (some (.int x)) M) : Fr G d j As M (AnsS M x) := Fr_mono (fun q M1 e => by
    obtain ⟨rfl, rfl⟩ := e
    exact AnsS.rf rfl) h
section SAME
variable {G : GG} {M : WM}
theorem s_word (hg : GoodT M) (x y : Int32) : Same G 87 138 [.int x, .int y] M := Same.pure hg (c_word (d := 38) hg.1 x y) (AnsS.of (m_word (d := 39) hg.1.1 x y))
theorem s_motion (hg : GoodT M) (x y : Int32) : Same G 88 139 [.int x, .int y] M := Same.pure hg (c_motion (d := 38) hg.1 x y) (AnsS.of (m_motion (d := 38) hg.1.1 x y))
theorem s_said (hg : GoodT M) (x y : Int32) : Same G 89 140 [.int x, .int y] M := Same.pure hg (c_said (d := 38) hg.1 x y) (AnsS.of (m_said (d := 38) hg.1.1 x y))
theorem s_baby (hg : GoodT M) (x y : Int32) : Same G 90 141 [.int x, .int y] M := Same.pure hg (c_baby (d := 37) hg.1 x y) (AnsS.of (m_baby (d := 38) hg.1.1 x y))
theorem s_now (hg : GoodT M) (y : Int32) : Same G 91 144 [.int y] M := Same.pure hg (c_now (d := 37) hg.1 y) (AnsS.of (m_now (d := 38) hg.1.1 y))
theorem s_count (hg : GoodT M) (y : Int32) : Same G 110 175 [.int y] M := Same.pure hg (c_count (d := 40) hg.1 y) (AnsS.of (m_count (d := 40) y))
theorem s_would (hg : GoodT M) (x y : Int32) : Same G 96 151 [.int x, .int y] M := Same.pure hg (c_would (d := 35) hg.1 x y) (m_would (d := 37) hg.1.1 x y)
theorem s_deep (hg : GoodT M) (x y : Int32) : Same G 97 152 [.int x, .int y] M := Same.pure hg (c_deep (d := 33) hg.1 x y) (m_deep (d := 38) hg.1.1 x y)
theorem s_rockings (hg : GoodT M) (x y : Int32) : Same G 98 153 [.int x, .int y] M := Same.pure hg (c_rockings (d := 33) hg.1 x y) (m_rockings (d := 38) hg.1.1 x y)
theorem s_noise (hg : GoodT M) (x y z : Int32) : Same G 100 158 [.int x, .int y, .int z] M := Same.pure hg (c_noise (d := 32) hg.1 x y z) (m_noise (d := 37) hg.1.1 x y z)
theorem s_which (hg : GoodT M) : Same G 106 170 [] M := Same.pure hg (c_which (d := 34) hg.1) (m_which (d := 37) hg.1.1)
end SAME
