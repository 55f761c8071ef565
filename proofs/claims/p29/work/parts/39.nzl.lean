def nzl (y : Int64) : Bool := decide (¬ y = 0)
theorem nzl_of {y : Int64} (h : nzl y = true) : ¬ y = 0 := of_decide_eq_true h
