def Rel (σ τ : sm_S) : Prop := invX σ ∧ invM τ
theorem Rel.ix {σ τ : sm_S} (h : Rel σ τ) : invX σ := h.1
theorem Rel.im {σ τ : sm_S} (h : Rel σ τ) : invM τ := h.2
theorem st_constant {σ τ : sm_S} (h : Rel σ τ) (x1 : Int32) (x2 : Int32) (x3 : Int64) : (f_X5_constant σ x1 x2 x3).1 = (f_X6_constant τ x1 x2 x3).1 ∧ Rel (f_X5_constant σ x1 x2 x3).2 (f_X6_constant τ x1 x2 x3).2 := sorry
theorem st_input {σ τ : sm_S} (h : Rel σ τ) (x1 : Int32) (x2 : Int32) (x3 : Int64) (x5 : Int32) : (f_X5_input σ x1 x2 x3 x5).1 = (f_X6_input τ x1 x2 x3 x5).1 ∧ Rel (f_X5_input σ x1 x2 x3 x5).2 (f_X6_input τ x1 x2 x3 x5).2 := sorry
theorem st_one {σ τ : sm_S} (h : Rel σ τ) (x1 : Int32) (x2 : Int32) (x3 : Int32) : (f_X5_one σ x1 x2 x3).1 = (f_X6_one τ x1 x2 x3).1 ∧ Rel (f_X5_one σ x1 x2 x3).2 (f_X6_one τ x1 x2 x3).2 := sorry
theorem st_two {σ τ : sm_S} (h : Rel σ τ) (x1 : Int32) (x2 : Int32) (x3 : Int32) (x4 : Int32) : (f_X5_two σ x1 x2 x3 x4).1 = (f_X6_two τ x1 x2 x3 x4).1 ∧ Rel (f_X5_two σ x1 x2 x3 x4).2 (f_X6_two τ x1 x2 x3 x4).2 := sorry
theorem st_move {σ τ : sm_S} (h : Rel σ τ) (x1 : Int32) (x2 : Int32) : (f_X5_move σ x1 x2).1 = (f_X6_move τ x1 x2).1 ∧ Rel (f_X5_move σ x1 x2).2 (f_X6_move τ x1 x2).2 := sorry
theorem st_array {σ τ : sm_S} (h : Rel σ τ) (x1 : Int32) (x2 : Int32) (x3 : Int32) : (f_X5_array σ x1 x2 x3).1 = (f_X6_array τ x1 x2 x3).1 ∧ Rel (f_X5_array σ x1 x2 x3).2 (f_X6_array τ x1 x2 x3).2 := sorry
theorem st_drop {σ τ : sm_S} (h : Rel σ τ) (x1 : Int32) : (f_X5_drop σ x1).1 = (f_X6_drop τ x1).1 ∧ Rel (f_X5_drop σ x1).2 (f_X6_drop τ x1).2 := sorry
theorem st_share {σ τ : sm_S} (h : Rel σ τ) (x1 : Int32) (x2 : Int32) : (f_X5_share σ x1 x2).1 = (f_X6_share τ x1 x2).1 ∧ Rel (f_X5_share σ x1 x2).2 (f_X6_share τ x1 x2).2 := sorry
theorem st_load {σ τ : sm_S} (h : Rel σ τ) (x1 : Int32) (x2 : Int32) (x3 : Int32) : (f_X5_load σ x1 x2 x3).1 = (f_X6_load τ x1 x2 x3).1 ∧ Rel (f_X5_load σ x1 x2 x3).2 (f_X6_load τ x1 x2 x3).2 := sorry
theorem st_store {σ τ : sm_S} (h : Rel σ τ) (x1 : Int32) (x2 : Int32) (x3 : Int32) : (f_X5_store σ x1 x2 x3).1 = (f_X6_store τ x1 x2 x3).1 ∧ Rel (f_X5_store σ x1 x2 x3).2 (f_X6_store τ x1 x2 x3).2 := sorry
theorem st_length {σ τ : sm_S} (h : Rel σ τ) (x1 : Int32) (x2 : Int32) : (f_X5_length σ x1 x2).1 = (f_X6_length τ x1 x2).1 ∧ Rel (f_X5_length σ x1 x2).2 (f_X6_length τ x1 x2).2 := sorry
theorem st_copy {σ τ : sm_S} (h : Rel σ τ) (x1 : Int32) (x2 : Int32) (x3 : Int32) (x4 : Int32) (x5 : Int32) : (f_X5_copy σ x1 x2 x3 x4 x5).1 = (f_X6_copy τ x1 x2 x3 x4 x5).1 ∧ Rel (f_X5_copy σ x1 x2 x3 x4 x5).2 (f_X6_copy τ x1 x2 x3 x4 x5).2 := sorry
theorem st_branch {σ τ : sm_S} (h : Rel σ τ) (x1 : Int32) (x2 : Int32) (x3 : Int32) : (f_X5_branch σ x1 x2 x3).1 = (f_X6_branch τ x1 x2 x3).1 ∧ Rel (f_X5_branch σ x1 x2 x3).2 (f_X6_branch τ x1 x2 x3).2 := sorry
theorem st_kind {σ τ : sm_S} (h : Rel σ τ) (x1 : Int32) : f_X5_kind σ x1 = f_X6_kind τ x1 := sorry
theorem st_bits {σ τ : sm_S} (h : Rel σ τ) (x1 : Int32) : f_X5_bits σ x1 = f_X6_bits τ x1 := sorry
theorem st_shadow {σ τ : sm_S} (h : Rel σ τ) (x1 : Int32) : f_X5_shadow σ x1 = f_X6_shadow τ x1 := sorry
theorem st_cell {σ τ : sm_S} (h : Rel σ τ) (x1 : Int32) (x2 : Int32) (x3 : Int32) : f_X5_cell σ x1 x2 x3 = f_X6_cell τ x1 x2 x3 := sorry
theorem st_pin {σ τ : sm_S} (h : Rel σ τ) (x1 : Int32) (x2 : Int32) : f_X5_pin σ x1 x2 = f_X6_pin τ x1 x2 := sorry
theorem st_way {σ τ : sm_S} (h : Rel σ τ) (x1 : Int32) (x2 : Int32) : f_X5_way σ x1 x2 = f_X6_way τ x1 x2 := sorry
theorem st_count {σ τ : sm_S} (h : Rel σ τ) (x1 : Int32) : f_X5_count σ x1 = f_X6_count τ x1 := sorry
theorem st_init : Rel sX0 sM0 := sorry
