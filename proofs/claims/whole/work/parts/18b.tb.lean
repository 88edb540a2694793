/-! The tables' words, by their places. -/
/-- the word at a place: a thousand times the list's number, and where in it -/
def tb (p : Nat) : Option Jvm.Cond := match p / 1000 with
  | 1 => tables_1_1[p % 1000]?
  | 2 => tables_1_2[p % 1000]?
  | 3 => tables_1_3[p % 1000]?
  | 4 => tables_1_4[p % 1000]?
  | 5 => tables_1_5[p % 1000]?
  | 6 => tables_1_6[p % 1000]?
  | 7 => tables_1_7[p % 1000]?
  | 8 => tables_1_8[p % 1000]?
  | _ => none
theorem in_lw {w : Jvm.Cond} {i : Nat} (h : tb i = some w) : w ∈ lw_tbl := by
  unfold lw_tbl
  refine List.mem_append_right _ ?_
  unfold tb at h
  unfold tables_1
  simp only [List.mem_append]
  split at h
  · exact Or.inl (List.mem_of_getElem? h)
  · exact Or.inr (Or.inl (List.mem_of_getElem? h))
  · exact Or.inr (Or.inr (Or.inl (List.mem_of_getElem? h)))
  · exact Or.inr (Or.inr (Or.inr (Or.inl (List.mem_of_getElem? h))))
  · exact Or.inr (Or.inr (Or.inr (Or.inr (Or.inl (List.mem_of_getElem? h)))))
  · exact Or.inr (Or.inr (Or.inr (Or.inr (Or.inr (Or.inl (List.mem_of_getElem? h))))))
  · exact Or.inr (Or.inr (Or.inr (Or.inr (Or.inr (Or.inr (Or.inl (List.mem_of_getElem? h)))))))
  · exact Or.inr (Or.inr (Or.inr (Or.inr (Or.inr (Or.inr (Or.inr (List.mem_of_getElem? h)))))))
  · cases h
theorem in_all {w : Jvm.Cond} {i : Nat} (h : tb (i) = some w) (hg : goodWord w = true) : w ∈ gALL := by
  unfold gALL
  exact List.mem_filter.mpr ⟨in_lw h, hg⟩
