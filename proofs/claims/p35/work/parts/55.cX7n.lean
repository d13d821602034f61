/-! the model: save, restore -/
section KM
variable {l : Launch} {G : Gx} {mem : Mem} {n : Nat} {w : Nat → Nat} {E : Nat → Nat → Nat} {c : Nat → Nat → Prop} {D H : Nat → Nat → Nat}
theorem i_64_0 : (0 : Int64).toInt = 0 := rfl
theorem i_64_1 : (1 : Int64).toInt = 1 := rfl
end KM
