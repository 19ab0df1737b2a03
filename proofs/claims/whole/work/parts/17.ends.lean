theorem jx_sq_t {t u : jx_tr} {lv : List (Nat × Value)} {st : List Value} {μ : jx_M} {b : Nat × Nat} {P : jx_S → Prop} : jx_sq t u (lv, st, μ, b) P = t (lv, st, μ, b) (fun σ' => u σ' P) := rfl
