section XISHR
variable {l : Launch} {M : MTy} {A : State → Nat → Prop} {Z : List Frame → Array Value → State → State → Prop} {E : Array Value → State → Prop} {G : Gx} {cells slots : Nat} {mem : Mem} {pc : Nat} {lv : Lv} {st : List Value}
theorem x_ishr {x y : Int32} (hdg : decode M.2.1 pc = .ok (.ishr, 1)) (kk : Xg l M A Z E G cells slots mem (pc + 1) lv (.int (x >>> (y &&& 31)) :: st)) : Xg l M A Z E G cells slots mem pc lv (.int y :: .int x :: st) := by
  intro p e s m args below meth c H locs ls C hP hD hS hL
  exact lv_ishr C.1 C.2.1 hdg (kk p e s m args below meth c H locs _ C hP hD hS hL)
end XISHR
