section
theorem tt_one : (1 : Nat) + 1 = 2 := rfl
end
