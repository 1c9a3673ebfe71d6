section ENDS
variable {md : Md} {d pc : Nat} {L : List (Option MV)} {S : List MV} {σ σ1 : St}
theorem J.wI {z w : Int32} (h : some z = some w) (j : J md d pc L S σ (some (mI z)) σ1) : J md d pc L S σ (some (mI w)) σ1 := by cases h; exact j
theorem J.wL {z w : Int64} (h : some z = some w) (j : J md d pc L S σ (some (mL z)) σ1) : J md d pc L S σ (some (mL w)) σ1 := by cases h; exact j
theorem J.wsI {z : Int32} {w : Int32 × St} (h : some (z, σ1) = some w) (j : J md d pc L S σ (some (mI z)) σ1) : J md d pc L S σ (some (mI w.1)) w.2 := by cases h; exact j
theorem J.wsL {z : Int64} {w : Int64 × St} (h : some (z, σ1) = some w) (j : J md d pc L S σ (some (mL z)) σ1) : J md d pc L S σ (some (mL w.1)) w.2 := by cases h; exact j
theorem J.wsV {w : St} (h : some σ1 = some w) (j : J md d pc L S σ none σ1) : J md d pc L S σ none w := by cases h; exact j
end ENDS
