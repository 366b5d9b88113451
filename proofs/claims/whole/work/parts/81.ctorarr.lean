theorem n_arrI : Cond.arrayClass .int ∈ lw_tg := lw_tg_in (List.mem_of_getElem? (i := 158) (by decide +kernel)) rfl
theorem n_arrJ : Cond.arrayClass .long ∈ lw_tg := lw_tg_in (List.mem_of_getElem? (i := 350) (by decide +kernel)) rfl
theorem n_arrB : Cond.arrayClass .byte ∈ lw_tg := lw_tg_in (List.mem_of_getElem? (i := 1458) (by decide +kernel)) rfl
theorem n_oi : Cond.instanceMethod objectInit ∈ lw_tg := lw_tg_in (List.mem_of_getElem? (i := 132) (by decide +kernel)) rfl
theorem n_oc : Cond.code objectInit ⟨#[0xb1]⟩ 1 none ∈ lw_tg := lw_tg_in (List.mem_of_getElem? (i := 133) (by decide +kernel)) rfl

