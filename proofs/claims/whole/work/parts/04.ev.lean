noncomputable def ev : MRec := evM Pg
theorem ev_eq (M d i : Nat) (ls : MLoc) (st : List Value) (h : MH) : ev M d i ls st h = blkM Pg ev M d i ls st h := evM_eq Pg M d i ls st h
