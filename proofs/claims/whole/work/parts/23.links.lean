set_option maxRecDepth 100000 in
theorem mj_xc0 : (mj_X 0).all (mj_lchk mj_Y 0) = true := by decide +kernel
set_option maxRecDepth 100000 in
theorem mj_xc1 : (mj_X 1).all (mj_lchk mj_Y 1) = true := by decide +kernel
set_option maxRecDepth 100000 in
theorem mj_xc2 : (mj_X 2).all (mj_lchk mj_Y 2) = true := by decide +kernel
set_option maxRecDepth 100000 in
theorem mj_xc3 : (mj_X 3).all (mj_lchk mj_Y 3) = true := by decide +kernel
set_option maxRecDepth 100000 in
theorem mj_xc4 : (mj_X 4).all (mj_lchk mj_Y 4) = true := by decide +kernel
set_option maxRecDepth 100000 in
theorem mj_xc5 : (mj_X 5).all (mj_lchk mj_Y 5) = true := by decide +kernel
set_option maxRecDepth 100000 in
theorem mj_xc6 : (mj_X 6).all (mj_lchk mj_Y 6) = true := by decide +kernel
set_option maxRecDepth 100000 in
theorem mj_xc7 : (mj_X 7).all (mj_lchk mj_Y 7) = true := by decide +kernel
set_option maxRecDepth 100000 in
theorem mj_xc8 : (mj_X 8).all (mj_lchk mj_Y 8) = true := by decide +kernel
set_option maxRecDepth 100000 in
theorem mj_xc9 : (mj_X 9).all (mj_lchk mj_Y 9) = true := by decide +kernel
set_option maxRecDepth 100000 in
theorem mj_xc10 : (mj_X 10).all (mj_lchk mj_Y 10) = true := by decide +kernel
set_option maxRecDepth 100000 in
theorem mj_xc11 : (mj_X 11).all (mj_lchk mj_Y 11) = true := by decide +kernel
set_option maxRecDepth 100000 in
theorem mj_xc12 : (mj_X 12).all (mj_lchk mj_Y 12) = true := by decide +kernel
set_option maxRecDepth 100000 in
theorem mj_xc13 : (mj_X 13).all (mj_lchk mj_Y 13) = true := by decide +kernel
set_option maxRecDepth 100000 in
theorem mj_xc14 : (mj_X 14).all (mj_lchk mj_Y 14) = true := by decide +kernel
set_option maxRecDepth 100000 in
theorem mj_xc15 : (mj_X 15).all (mj_lchk mj_Y 15) = true := by decide +kernel
set_option maxRecDepth 100000 in
theorem mj_xc16 : (mj_X 16).all (mj_lchk mj_Y 16) = true := by decide +kernel
theorem mj_xc : ∀ own, (mj_X own).all (mj_lchk mj_Y own) = true
  | 0 => mj_xc0
  | 1 => mj_xc1
  | 2 => mj_xc2
  | 3 => mj_xc3
  | 4 => mj_xc4
  | 5 => mj_xc5
  | 6 => mj_xc6
  | 7 => mj_xc7
  | 8 => mj_xc8
  | 9 => mj_xc9
  | 10 => mj_xc10
  | 11 => mj_xc11
  | 12 => mj_xc12
  | 13 => mj_xc13
  | 14 => mj_xc14
  | 15 => mj_xc15
  | 16 => mj_xc16
  | _ + 17 => rfl
