theorem k_ne {v : Int32} (i : Int32) (z : Int) (hz : i.toInt = z) (h : ¬ v = i) : ¬ v.toInt = z := fun e => h (Int32.toInt_inj.mp (e.trans hz.symm))
