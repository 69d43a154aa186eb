/-! AN INTERPRETER OF MY OWN over a heap of relative places: index 0 is the law's script, index k+1 the k-th cell that the law's run makes. Tags: below 50 an object of that class number (its fields), 99 the script, 100 int[], 101 long[], 102 char[], 110 + c an array of references to objects of class c. -/
abbrev im_C : Type := Nat × Nat × (Nat → Value)
abbrev im_H : Type := Nat × Nat × (Nat → Option im_C)
abbrev im_L : Type := List (Nat × Value)
abbrev im_E : Type := Nat × Instr × Nat × Nat × Nat × Nat × Value
abbrev im_M : Type := MethodName × ByteArray × Nat × Option FieldType × Nat × List im_E
abbrev im_R : Type := im_H × Option Value
abbrev im_S : Type := Nat × im_L × List Value × im_H
