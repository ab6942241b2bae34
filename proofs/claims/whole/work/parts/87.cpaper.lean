section CPAPER
def tX5_init : List (Nat × Instr × Nat) := [(0, .aload_n 0, 1), (1, .invokespecial 3, 3), (4, .aload_n 0, 1), (5, .bipush 60, 2), (7, .newarray .int, 2), (9, .putfield 9, 3), (12, .return_, 1)]
theorem zX5_init : (tX5_init.all fun q => decide (decode cX5_init q.1 = .ok q.2)) = true := by decide +kernel
abbrev MX5_init : MT := (yX5_init, cX5_init, 1, none, 1, 12)
theorem wk_obj5 : Cond.methodLink RX5 3 objectInit ∈ tbG := tb_at 58 (by decide +kernel) (by decide +kernel)
theorem wk_oi : Cond.instanceMethod objectInit ∈ tbG := tb_at 23 (by decide +kernel) (by decide +kernel)
theorem wk_oc : Cond.code objectInit ⟨#[0xb1]⟩ 1 none ∈ tbG := tb_at 24 (by decide +kernel) (by decide +kernel)
theorem wk_ai : Cond.arrayClass (newarray.typeOf .int) ∈ tbG := tb_at 50 (by decide +kernel) (by decide +kernel)
theorem wk_f59 : Cond.fieldLink RX5 9 RX5 (TX5 0).2.1 (TX5 0).2.2.1 ∈ tbG := tb_at 59 (by decide +kernel) (by decide +kernel)
end CPAPER
