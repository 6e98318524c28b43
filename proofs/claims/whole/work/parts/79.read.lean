theorem call_read {i : Nat → Nat → Int32} {l : Nat → Nat → Int64} {a : Nat → Nat → Int32} (H : Inv i l a) : Call (fun G => f_Fa_read G 0) (fun G => f_Mo_read G 136) i l a := sorry
