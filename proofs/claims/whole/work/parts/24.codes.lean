set_option maxRecDepth 100000 in
theorem mj_mc0 : (List.range' 0 8).all (mj_vm mj_X mj_P mj_Y) = true := by decide +kernel
set_option maxRecDepth 100000 in
theorem mj_mc8 : (List.range' 8 8).all (mj_vm mj_X mj_P mj_Y) = true := by decide +kernel
set_option maxRecDepth 100000 in
theorem mj_mc16 : (List.range' 16 8).all (mj_vm mj_X mj_P mj_Y) = true := by decide +kernel
set_option maxRecDepth 100000 in
theorem mj_mc24 : (List.range' 24 8).all (mj_vm mj_X mj_P mj_Y) = true := by decide +kernel
set_option maxRecDepth 100000 in
theorem mj_mc32 : (List.range' 32 8).all (mj_vm mj_X mj_P mj_Y) = true := by decide +kernel
set_option maxRecDepth 100000 in
theorem mj_mc40 : (List.range' 40 8).all (mj_vm mj_X mj_P mj_Y) = true := by decide +kernel
set_option maxRecDepth 100000 in
theorem mj_mc48 : (List.range' 48 8).all (mj_vm mj_X mj_P mj_Y) = true := by decide +kernel
set_option maxRecDepth 100000 in
theorem mj_mc56 : (List.range' 56 8).all (mj_vm mj_X mj_P mj_Y) = true := by decide +kernel
set_option maxRecDepth 100000 in
theorem mj_mc64 : (List.range' 64 8).all (mj_vm mj_X mj_P mj_Y) = true := by decide +kernel
set_option maxRecDepth 100000 in
theorem mj_mc72 : (List.range' 72 8).all (mj_vm mj_X mj_P mj_Y) = true := by decide +kernel
set_option maxRecDepth 100000 in
theorem mj_mc80 : (List.range' 80 8).all (mj_vm mj_X mj_P mj_Y) = true := by decide +kernel
set_option maxRecDepth 100000 in
theorem mj_mc88 : (List.range' 88 8).all (mj_vm mj_X mj_P mj_Y) = true := by decide +kernel
set_option maxRecDepth 100000 in
theorem mj_mc96 : (List.range' 96 8).all (mj_vm mj_X mj_P mj_Y) = true := by decide +kernel
set_option maxRecDepth 100000 in
theorem mj_mc104 : (List.range' 104 8).all (mj_vm mj_X mj_P mj_Y) = true := by decide +kernel
set_option maxRecDepth 100000 in
theorem mj_mc112 : (List.range' 112 8).all (mj_vm mj_X mj_P mj_Y) = true := by decide +kernel
set_option maxRecDepth 100000 in
theorem mj_mc120 : (List.range' 120 8).all (mj_vm mj_X mj_P mj_Y) = true := by decide +kernel
set_option maxRecDepth 100000 in
theorem mj_mc128 : (List.range' 128 8).all (mj_vm mj_X mj_P mj_Y) = true := by decide +kernel
set_option maxRecDepth 100000 in
theorem mj_mc136 : (List.range' 136 8).all (mj_vm mj_X mj_P mj_Y) = true := by decide +kernel
set_option maxRecDepth 100000 in
theorem mj_mc144 : (List.range' 144 8).all (mj_vm mj_X mj_P mj_Y) = true := by decide +kernel
set_option maxRecDepth 100000 in
theorem mj_mc152 : (List.range' 152 8).all (mj_vm mj_X mj_P mj_Y) = true := by decide +kernel
set_option maxRecDepth 100000 in
theorem mj_mc160 : (List.range' 160 8).all (mj_vm mj_X mj_P mj_Y) = true := by decide +kernel
set_option maxRecDepth 100000 in
theorem mj_mc168 : (List.range' 168 8).all (mj_vm mj_X mj_P mj_Y) = true := by decide +kernel
set_option maxRecDepth 100000 in
theorem mj_mc176 : (List.range' 176 8).all (mj_vm mj_X mj_P mj_Y) = true := by decide +kernel
set_option maxRecDepth 100000 in
theorem mj_mc184 : (List.range' 184 8).all (mj_vm mj_X mj_P mj_Y) = true := by decide +kernel
set_option maxRecDepth 100000 in
theorem mj_mc192 : (List.range' 192 1).all (mj_vm mj_X mj_P mj_Y) = true := by decide +kernel
theorem mj_mc : ∀ k, k < mj_P.length → mj_vm mj_X mj_P mj_Y k = true := by
  intro k hk
  have hk : k < 193 := hk
  by_cases h0 : k < 8
  · exact List.all_eq_true.mp mj_mc0 k (List.mem_range'_1.mpr ⟨by omega, by omega⟩)
  by_cases h8 : k < 16
  · exact List.all_eq_true.mp mj_mc8 k (List.mem_range'_1.mpr ⟨by omega, by omega⟩)
  by_cases h16 : k < 24
  · exact List.all_eq_true.mp mj_mc16 k (List.mem_range'_1.mpr ⟨by omega, by omega⟩)
  by_cases h24 : k < 32
  · exact List.all_eq_true.mp mj_mc24 k (List.mem_range'_1.mpr ⟨by omega, by omega⟩)
  by_cases h32 : k < 40
  · exact List.all_eq_true.mp mj_mc32 k (List.mem_range'_1.mpr ⟨by omega, by omega⟩)
  by_cases h40 : k < 48
  · exact List.all_eq_true.mp mj_mc40 k (List.mem_range'_1.mpr ⟨by omega, by omega⟩)
  by_cases h48 : k < 56
  · exact List.all_eq_true.mp mj_mc48 k (List.mem_range'_1.mpr ⟨by omega, by omega⟩)
  by_cases h56 : k < 64
  · exact List.all_eq_true.mp mj_mc56 k (List.mem_range'_1.mpr ⟨by omega, by omega⟩)
  by_cases h64 : k < 72
  · exact List.all_eq_true.mp mj_mc64 k (List.mem_range'_1.mpr ⟨by omega, by omega⟩)
  by_cases h72 : k < 80
  · exact List.all_eq_true.mp mj_mc72 k (List.mem_range'_1.mpr ⟨by omega, by omega⟩)
  by_cases h80 : k < 88
  · exact List.all_eq_true.mp mj_mc80 k (List.mem_range'_1.mpr ⟨by omega, by omega⟩)
  by_cases h88 : k < 96
  · exact List.all_eq_true.mp mj_mc88 k (List.mem_range'_1.mpr ⟨by omega, by omega⟩)
  by_cases h96 : k < 104
  · exact List.all_eq_true.mp mj_mc96 k (List.mem_range'_1.mpr ⟨by omega, by omega⟩)
  by_cases h104 : k < 112
  · exact List.all_eq_true.mp mj_mc104 k (List.mem_range'_1.mpr ⟨by omega, by omega⟩)
  by_cases h112 : k < 120
  · exact List.all_eq_true.mp mj_mc112 k (List.mem_range'_1.mpr ⟨by omega, by omega⟩)
  by_cases h120 : k < 128
  · exact List.all_eq_true.mp mj_mc120 k (List.mem_range'_1.mpr ⟨by omega, by omega⟩)
  by_cases h128 : k < 136
  · exact List.all_eq_true.mp mj_mc128 k (List.mem_range'_1.mpr ⟨by omega, by omega⟩)
  by_cases h136 : k < 144
  · exact List.all_eq_true.mp mj_mc136 k (List.mem_range'_1.mpr ⟨by omega, by omega⟩)
  by_cases h144 : k < 152
  · exact List.all_eq_true.mp mj_mc144 k (List.mem_range'_1.mpr ⟨by omega, by omega⟩)
  by_cases h152 : k < 160
  · exact List.all_eq_true.mp mj_mc152 k (List.mem_range'_1.mpr ⟨by omega, by omega⟩)
  by_cases h160 : k < 168
  · exact List.all_eq_true.mp mj_mc160 k (List.mem_range'_1.mpr ⟨by omega, by omega⟩)
  by_cases h168 : k < 176
  · exact List.all_eq_true.mp mj_mc168 k (List.mem_range'_1.mpr ⟨by omega, by omega⟩)
  by_cases h176 : k < 184
  · exact List.all_eq_true.mp mj_mc176 k (List.mem_range'_1.mpr ⟨by omega, by omega⟩)
  by_cases h184 : k < 192
  · exact List.all_eq_true.mp mj_mc184 k (List.mem_range'_1.mpr ⟨by omega, by omega⟩)
  by_cases h192 : k < 193
  · exact List.all_eq_true.mp mj_mc192 k (List.mem_range'_1.mpr ⟨by omega, by omega⟩)
  omega
theorem mj_ok_P : mj_VPg mj_P mj_Y := mj_vm_ok mj_YOK_Y mj_xc mj_mc
