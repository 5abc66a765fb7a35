/-! The law's own code, by pieces; the methods' own words. -/
noncomputable def okR (M lo n : Nat) : Bool := match Pg M with
  | some t => (List.range n).all (fun k => match nth t.code (lo + k) with
    | some e => okE t (lo + k) e
    | none => true)
  | none => true
theorem okl_0 : okR 345 0 100 = true := by decide +kernel
theorem okl_1 : okR 345 100 100 = true := by decide +kernel
theorem okl_2 : okR 345 200 100 = true := by decide +kernel
theorem okl_3 : okR 345 300 100 = true := by decide +kernel
theorem okl_4 : okR 345 400 100 = true := by decide +kernel
theorem okl_5 : okR 345 500 100 = true := by decide +kernel
theorem okl_6 : okR 345 600 100 = true := by decide +kernel
theorem okl_7 : okR 345 700 100 = true := by decide +kernel
theorem okl_8 : okR 345 800 100 = true := by decide +kernel
theorem okl_9 : okR 345 900 100 = true := by decide +kernel
theorem okl_10 : okR 345 1000 100 = true := by decide +kernel
theorem okl_11 : okR 345 1100 100 = true := by decide +kernel
theorem okl_12 : okR 345 1200 100 = true := by decide +kernel
theorem okl_13 : okR 345 1300 100 = true := by decide +kernel
theorem cm_0 : (List.range 24).all (fun r => decide (24 * 0 + r = 345) || okMs (24 * 0 + r)) = true := by decide +kernel
theorem cm_1 : (List.range 24).all (fun r => decide (24 * 1 + r = 345) || okMs (24 * 1 + r)) = true := by decide +kernel
theorem cm_2 : (List.range 24).all (fun r => decide (24 * 2 + r = 345) || okMs (24 * 2 + r)) = true := by decide +kernel
theorem cm_3 : (List.range 24).all (fun r => decide (24 * 3 + r = 345) || okMs (24 * 3 + r)) = true := by decide +kernel
theorem cm_4 : (List.range 24).all (fun r => decide (24 * 4 + r = 345) || okMs (24 * 4 + r)) = true := by decide +kernel
theorem cm_5 : (List.range 24).all (fun r => decide (24 * 5 + r = 345) || okMs (24 * 5 + r)) = true := by decide +kernel
theorem cm_6 : (List.range 24).all (fun r => decide (24 * 6 + r = 345) || okMs (24 * 6 + r)) = true := by decide +kernel
theorem cm_7 : (List.range 24).all (fun r => decide (24 * 7 + r = 345) || okMs (24 * 7 + r)) = true := by decide +kernel
theorem cm_8 : (List.range 24).all (fun r => decide (24 * 8 + r = 345) || okMs (24 * 8 + r)) = true := by decide +kernel
theorem cm_9 : (List.range 24).all (fun r => decide (24 * 9 + r = 345) || okMs (24 * 9 + r)) = true := by decide +kernel
theorem cm_10 : (List.range 24).all (fun r => decide (24 * 10 + r = 345) || okMs (24 * 10 + r)) = true := by decide +kernel
theorem cm_11 : (List.range 24).all (fun r => decide (24 * 11 + r = 345) || okMs (24 * 11 + r)) = true := by decide +kernel
theorem cm_12 : (List.range 24).all (fun r => decide (24 * 12 + r = 345) || okMs (24 * 12 + r)) = true := by decide +kernel
theorem cm_13 : (List.range 24).all (fun r => decide (24 * 13 + r = 345) || okMs (24 * 13 + r)) = true := by decide +kernel
theorem cm_14 : (List.range 24).all (fun r => decide (24 * 14 + r = 345) || okMs (24 * 14 + r)) = true := by decide +kernel
