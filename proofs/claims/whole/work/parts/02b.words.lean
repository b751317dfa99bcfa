theorem objIM : Cond.instanceMethod Lib.objectInit ∈ lw_tbl := tw1 18 rfl
theorem objCO : Cond.code Lib.objectInit ⟨#[0xb1]⟩ 1 none ∈ lw_tbl := tw1 19 rfl
theorem arcNA : Cond.native arraycopyName ∈ lw_tbl := tw2 74 rfl
theorem arcST : Cond.static arraycopyName ∈ lw_tbl := tw2 73 rfl
theorem arcIN : Cond.initialized "java/lang/System" ∈ lw_tbl := tw1 9 rfl
theorem acI : Cond.arrayClass .int ∈ lw_tbl := tw1 38 rfl
theorem acB : Cond.arrayClass .boolean ∈ lw_tbl := tw1 211 rfl
theorem aoT : Cond.arrayOver (.object RX5) ∈ lw_tbl := tw1 163 rfl
theorem aoI : Cond.arrayOver (.array .int) ∈ lw_tbl := tw1 27 rfl
theorem lstW : Cond.laysStatic RX6 "WIDER" "[I" ∈ lw_tbl := tw3 194 rfl
theorem ynm900 : ynm 900 = Lib.objectInit := rfl
theorem ynm901 : ynm 901 = arraycopyName := rfl
