def sIdx (c : Int32) : Int32 := if c = 122 then 0 else if c = 98 then 1 else if c = 99 then 2 else if c = 115 then 3 else if c = 105 then 4 else if c = 106 then 5 else if c = 102 then 6 else if c = 100 then 7 else -1
def fX3_primitiveOf (p1 : Int32) (μ : Mm) : Option Int32 := if p1 < 0 then some (-9) else (if sIdx (ji2c p1) < 0 then some (-9) else some (sIdx (ji2c p1)))
theorem kX3_primitiveOf (l : Launch) (ε : Ev) (p1 : Int32) (μ : Mm) (out : Int32) (hf : fX3_primitiveOf p1 μ = some out) : Sp l ε layX yX3_primitiveOf cX3_primitiveOf 2 (some .int) 12 [.int p1] (some (.int out)) μ μ := sorry
