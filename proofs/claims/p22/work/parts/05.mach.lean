-- what the machine has of each method: name, bytes, the class that it stands in, return type, frames and locals that its calls want
def qy (m : Nat) : MethodName := cond (Nat.ble m 56) (cond (Nat.ble m 27) (cond (Nat.ble m 13) (cond (Nat.ble m 6) (cond (Nat.ble m 2) (cond (Nat.ble m 0) (cond (Nat.beq m 0) (yX0_init) (⟨"", "", ""⟩)) (cond (Nat.ble m 1) (cond (Nat.beq m 1) (yX0_clear) (⟨"", "", ""⟩)) (cond (Nat.beq m 2) (yX0_add) (⟨"", "", ""⟩)))) (cond (Nat.ble m 4) (cond (Nat.ble m 3) (cond (Nat.beq m 3) (yX0_copyFrom) (⟨"", "", ""⟩)) (cond (Nat.beq m 4) (yX0_size) (⟨"", "", ""⟩))) (cond (Nat.ble m 5) (cond (Nat.beq m 5) (yX0_leaves) (⟨"", "", ""⟩)) (cond (Nat.beq m 6) (yX0_branches) (⟨"", "", ""⟩))))) (cond (Nat.ble m 9) (cond (Nat.ble m 7) (cond (Nat.beq m 7) (yX0_at) (⟨"", "", ""⟩)) (cond (Nat.ble m 8) (cond (Nat.beq m 8) (yX0_isBranchAt) (⟨"", "", ""⟩)) (cond (Nat.beq m 9) (yX0_pathAt) (⟨"", "", ""⟩)))) (cond (Nat.ble m 11) (cond (Nat.ble m 10) (cond (Nat.beq m 10) (yX0_holds) (⟨"", "", ""⟩)) (cond (Nat.beq m 11) (yX0_leafPlace) (⟨"", "", ""⟩))) (cond (Nat.ble m 12) (cond (Nat.beq m 12) (yX0_isSameAs) (⟨"", "", ""⟩)) (cond (Nat.beq m 13) (yX0_leavesInCommon) (⟨"", "", ""⟩)))))) (cond (Nat.ble m 20) (cond (Nat.ble m 16) (cond (Nat.ble m 14) (cond (Nat.beq m 14) (yX1_init) (⟨"", "", ""⟩)) (cond (Nat.ble m 15) (cond (Nat.beq m 15) (yX1_size) (⟨"", "", ""⟩)) (cond (Nat.beq m 16) (yX1_keep) (⟨"", "", ""⟩)))) (cond (Nat.ble m 18) (cond (Nat.ble m 17) (cond (Nat.beq m 17) (yX1_forgetOldest) (⟨"", "", ""⟩)) (cond (Nat.beq m 18) (yX1_restore) (⟨"", "", ""⟩))) (cond (Nat.ble m 19) (cond (Nat.beq m 19) (yX2_init) (⟨"", "", ""⟩)) (cond (Nat.beq m 20) (yX2_size) (⟨"", "", ""⟩))))) (cond (Nat.ble m 23) (cond (Nat.ble m 21) (cond (Nat.beq m 21) (yX2_cutTo) (⟨"", "", ""⟩)) (cond (Nat.ble m 22) (cond (Nat.beq m 22) (yX2_letterOf) (⟨"", "", ""⟩)) (cond (Nat.beq m 23) (yX2_outerOf) (⟨"", "", ""⟩)))) (cond (Nat.ble m 25) (cond (Nat.ble m 24) (cond (Nat.beq m 24) (yX2_findOrAdd) (⟨"", "", ""⟩)) (cond (Nat.beq m 25) (yX2_isWithin) (⟨"", "", ""⟩))) (cond (Nat.ble m 26) (cond (Nat.beq m 26) (yX3_init) (⟨"", "", ""⟩)) (cond (Nat.beq m 27) (yX3_begin) (⟨"", "", ""⟩))))))) (cond (Nat.ble m 41) (cond (Nat.ble m 34) (cond (Nat.ble m 30) (cond (Nat.ble m 28) (cond (Nat.beq m 28) (yX3_isComplete) (⟨"", "", ""⟩)) (cond (Nat.ble m 29) (cond (Nat.beq m 29) (yX3_take) (⟨"", "", ""⟩)) (cond (Nat.beq m 30) (yX3_isDigit) (⟨"", "", ""⟩)))) (cond (Nat.ble m 32) (cond (Nat.ble m 31) (cond (Nat.beq m 31) (yX3_takeSpace) (⟨"", "", ""⟩)) (cond (Nat.beq m 32) (yX3_takeOpening) (⟨"", "", ""⟩))) (cond (Nat.ble m 33) (cond (Nat.beq m 33) (yX3_takeClosing) (⟨"", "", ""⟩)) (cond (Nat.beq m 34) (yX3_takeLetter) (⟨"", "", ""⟩))))) (cond (Nat.ble m 37) (cond (Nat.ble m 35) (cond (Nat.beq m 35) (yX3_takeColon) (⟨"", "", ""⟩)) (cond (Nat.ble m 36) (cond (Nat.beq m 36) (yX3_takeFirstDigit) (⟨"", "", ""⟩)) (cond (Nat.beq m 37) (yX3_takeNextDigit) (⟨"", "", ""⟩)))) (cond (Nat.ble m 39) (cond (Nat.ble m 38) (cond (Nat.beq m 38) (yX3_takeFieldEnd) (⟨"", "", ""⟩)) (cond (Nat.beq m 39) (yX4_init) (⟨"", "", ""⟩))) (cond (Nat.ble m 40) (cond (Nat.beq m 40) (yX4_size) (⟨"", "", ""⟩)) (cond (Nat.beq m 41) (yX4_at) (⟨"", "", ""⟩)))))) (cond (Nat.ble m 48) (cond (Nat.ble m 44) (cond (Nat.ble m 42) (cond (Nat.beq m 42) (yX4_put) (⟨"", "", ""⟩)) (cond (Nat.ble m 43) (cond (Nat.beq m 43) (yX4_add) (⟨"", "", ""⟩)) (cond (Nat.beq m 44) (yX4_cutTo) (⟨"", "", ""⟩)))) (cond (Nat.ble m 46) (cond (Nat.ble m 45) (cond (Nat.beq m 45) (yX4_copyFrom) (⟨"", "", ""⟩)) (cond (Nat.beq m 46) (yX5_init) (⟨"", "", ""⟩))) (cond (Nat.ble m 47) (cond (Nat.beq m 47) (yX5_formAt) (⟨"", "", ""⟩)) (cond (Nat.beq m 48) (yX5_numberFor) (⟨"", "", ""⟩))))) (cond (Nat.ble m 52) (cond (Nat.ble m 50) (cond (Nat.ble m 49) (cond (Nat.beq m 49) (yX5_keep) (⟨"", "", ""⟩)) (cond (Nat.beq m 50) (yX6_init) (⟨"", "", ""⟩))) (cond (Nat.ble m 51) (cond (Nat.beq m 51) (yX6_copyFrom) (⟨"", "", ""⟩)) (cond (Nat.beq m 52) (yX6_addRecord) (⟨"", "", ""⟩)))) (cond (Nat.ble m 54) (cond (Nat.ble m 53) (cond (Nat.beq m 53) (yX6_shapeOf) (⟨"", "", ""⟩)) (cond (Nat.beq m 54) (yX6_setShapeOf) (⟨"", "", ""⟩))) (cond (Nat.ble m 55) (cond (Nat.beq m 55) (yX6_has) (⟨"", "", ""⟩)) (cond (Nat.beq m 56) (yX6_recordsRead) (⟨"", "", ""⟩)))))))) (cond (Nat.ble m 85) (cond (Nat.ble m 70) (cond (Nat.ble m 63) (cond (Nat.ble m 59) (cond (Nat.ble m 57) (cond (Nat.beq m 57) (yX6_recordsLeft) (⟨"", "", ""⟩)) (cond (Nat.ble m 58) (cond (Nat.beq m 58) (yX6_recordsWith) (⟨"", "", ""⟩)) (cond (Nat.beq m 59) (yX6_recordWith) (⟨"", "", ""⟩)))) (cond (Nat.ble m 61) (cond (Nat.ble m 60) (cond (Nat.beq m 60) (yX6_valueAt) (⟨"", "", ""⟩)) (cond (Nat.beq m 61) (yX6_setValue) (⟨"", "", ""⟩))) (cond (Nat.ble m 62) (cond (Nat.beq m 62) (yX7_init) (⟨"", "", ""⟩)) (cond (Nat.beq m 63) (yX7_append) (⟨"", "", ""⟩))))) (cond (Nat.ble m 66) (cond (Nat.ble m 64) (cond (Nat.beq m 64) (yX7_clearText) (⟨"", "", ""⟩)) (cond (Nat.ble m 65) (cond (Nat.beq m 65) (yX7_read) (⟨"", "", ""⟩)) (cond (Nat.beq m 66) (yX7_discard) (⟨"", "", ""⟩)))) (cond (Nat.ble m 68) (cond (Nat.ble m 67) (cond (Nat.beq m 67) (yX7_change) (⟨"", "", ""⟩)) (cond (Nat.beq m 68) (yX7_drop) (⟨"", "", ""⟩))) (cond (Nat.ble m 69) (cond (Nat.beq m 69) (yX7_setBound) (⟨"", "", ""⟩)) (cond (Nat.beq m 70) (yX7_undo) (⟨"", "", ""⟩)))))) (cond (Nat.ble m 77) (cond (Nat.ble m 73) (cond (Nat.ble m 71) (cond (Nat.beq m 71) (yX7_count) (⟨"", "", ""⟩)) (cond (Nat.ble m 72) (cond (Nat.beq m 72) (yX7_record) (⟨"", "", ""⟩)) (cond (Nat.beq m 73) (yX7_character) (⟨"", "", ""⟩)))) (cond (Nat.ble m 75) (cond (Nat.ble m 74) (cond (Nat.beq m 74) (yX7_value) (⟨"", "", ""⟩)) (cond (Nat.beq m 75) (yX7_path) (⟨"", "", ""⟩))) (cond (Nat.ble m 76) (cond (Nat.beq m 76) (yX7_shape) (⟨"", "", ""⟩)) (cond (Nat.beq m 77) (yX7_column) (⟨"", "", ""⟩))))) (cond (Nat.ble m 81) (cond (Nat.ble m 79) (cond (Nat.ble m 78) (cond (Nat.beq m 78) (yX7_field) (⟨"", "", ""⟩)) (cond (Nat.beq m 79) (yX7_sizeWith) (⟨"", "", ""⟩))) (cond (Nat.ble m 80) (cond (Nat.beq m 80) (yX7_bestBound) (⟨"", "", ""⟩)) (cond (Nat.beq m 81) (yX7_like) (⟨"", "", ""⟩)))) (cond (Nat.ble m 83) (cond (Nat.ble m 82) (cond (Nat.beq m 82) (yX7_isPath) (⟨"", "", ""⟩)) (cond (Nat.beq m 83) (yX7_isShape) (⟨"", "", ""⟩))) (cond (Nat.ble m 84) (cond (Nat.beq m 84) (yX7_isBound) (⟨"", "", ""⟩)) (cond (Nat.beq m 85) (yX7_isCommon) (⟨"", "", ""⟩))))))) (cond (Nat.ble m 99) (cond (Nat.ble m 92) (cond (Nat.ble m 88) (cond (Nat.ble m 86) (cond (Nat.beq m 86) (yX7_formOf) (⟨"", "", ""⟩)) (cond (Nat.ble m 87) (cond (Nat.beq m 87) (yX7_takeText) (⟨"", "", ""⟩)) (cond (Nat.beq m 88) (yX7_learnShape) (⟨"", "", ""⟩)))) (cond (Nat.ble m 90) (cond (Nat.ble m 89) (cond (Nat.beq m 89) (yX7_fillRemainder) (⟨"", "", ""⟩)) (cond (Nat.beq m 90) (yX7_dropValues) (⟨"", "", ""⟩))) (cond (Nat.ble m 91) (cond (Nat.beq m 91) (yX7_commonShapes) (⟨"", "", ""⟩)) (cond (Nat.beq m 92) (yX7_rareRecords) (⟨"", "", ""⟩))))) (cond (Nat.ble m 95) (cond (Nat.ble m 93) (cond (Nat.beq m 93) (yX7_sizeFor) (⟨"", "", ""⟩)) (cond (Nat.ble m 94) (cond (Nat.beq m 94) (yX7_costOf) (⟨"", "", ""⟩)) (cond (Nat.beq m 95) (yX7_recordsHolding) (⟨"", "", ""⟩)))) (cond (Nat.ble m 97) (cond (Nat.ble m 96) (cond (Nat.beq m 96) (yX7_sumOfPath) (⟨"", "", ""⟩)) (cond (Nat.beq m 97) (yX7_sumOfRecord) (⟨"", "", ""⟩))) (cond (Nat.ble m 98) (cond (Nat.beq m 98) (yX7_writeText) (⟨"", "", ""⟩)) (cond (Nat.beq m 99) (yX7_writeClosings) (⟨"", "", ""⟩)))))) (cond (Nat.ble m 106) (cond (Nat.ble m 102) (cond (Nat.ble m 100) (cond (Nat.beq m 100) (yX7_writeName) (⟨"", "", ""⟩)) (cond (Nat.ble m 101) (cond (Nat.beq m 101) (yX7_writeNumber) (⟨"", "", ""⟩)) (cond (Nat.beq m 102) (yL_up) (⟨"", "", ""⟩)))) (cond (Nat.ble m 104) (cond (Nat.ble m 103) (cond (Nat.beq m 103) (yL_mark) (⟨"", "", ""⟩)) (cond (Nat.beq m 104) (yL_fails) (⟨"", "", ""⟩))) (cond (Nat.ble m 105) (cond (Nat.beq m 105) (yL_types) (⟨"", "", ""⟩)) (cond (Nat.beq m 106) (yL_put) (⟨"", "", ""⟩))))) (cond (Nat.ble m 110) (cond (Nat.ble m 108) (cond (Nat.ble m 107) (cond (Nat.beq m 107) (yL_text) (⟨"", "", ""⟩)) (cond (Nat.beq m 108) (yL_shapes) (⟨"", "", ""⟩))) (cond (Nat.ble m 109) (cond (Nat.beq m 109) (yL_leafOf) (⟨"", "", ""⟩)) (cond (Nat.beq m 110) (yL_paths) (⟨"", "", ""⟩)))) (cond (Nat.ble m 112) (cond (Nat.ble m 111) (cond (Nat.beq m 111) (yL_like) (⟨"", "", ""⟩)) (cond (Nat.beq m 112) (yL_sound) (⟨"", "", ""⟩))) (cond (Nat.ble m 113) (cond (Nat.beq m 113) (yL_again) (⟨"", "", ""⟩)) (cond (Nat.beq m 114) (yL_acts) (⟨"", "", ""⟩))))))))
def qb (m : Nat) : ByteArray := cond (Nat.ble m 56) (cond (Nat.ble m 27) (cond (Nat.ble m 13) (cond (Nat.ble m 6) (cond (Nat.ble m 2) (cond (Nat.ble m 0) (cond (Nat.beq m 0) (cX0_init) (⟨#[]⟩)) (cond (Nat.ble m 1) (cond (Nat.beq m 1) (cX0_clear) (⟨#[]⟩)) (cond (Nat.beq m 2) (cX0_add) (⟨#[]⟩)))) (cond (Nat.ble m 4) (cond (Nat.ble m 3) (cond (Nat.beq m 3) (cX0_copyFrom) (⟨#[]⟩)) (cond (Nat.beq m 4) (cX0_size) (⟨#[]⟩))) (cond (Nat.ble m 5) (cond (Nat.beq m 5) (cX0_leaves) (⟨#[]⟩)) (cond (Nat.beq m 6) (cX0_branches) (⟨#[]⟩))))) (cond (Nat.ble m 9) (cond (Nat.ble m 7) (cond (Nat.beq m 7) (cX0_at) (⟨#[]⟩)) (cond (Nat.ble m 8) (cond (Nat.beq m 8) (cX0_isBranchAt) (⟨#[]⟩)) (cond (Nat.beq m 9) (cX0_pathAt) (⟨#[]⟩)))) (cond (Nat.ble m 11) (cond (Nat.ble m 10) (cond (Nat.beq m 10) (cX0_holds) (⟨#[]⟩)) (cond (Nat.beq m 11) (cX0_leafPlace) (⟨#[]⟩))) (cond (Nat.ble m 12) (cond (Nat.beq m 12) (cX0_isSameAs) (⟨#[]⟩)) (cond (Nat.beq m 13) (cX0_leavesInCommon) (⟨#[]⟩)))))) (cond (Nat.ble m 20) (cond (Nat.ble m 16) (cond (Nat.ble m 14) (cond (Nat.beq m 14) (cX1_init) (⟨#[]⟩)) (cond (Nat.ble m 15) (cond (Nat.beq m 15) (cX1_size) (⟨#[]⟩)) (cond (Nat.beq m 16) (cX1_keep) (⟨#[]⟩)))) (cond (Nat.ble m 18) (cond (Nat.ble m 17) (cond (Nat.beq m 17) (cX1_forgetOldest) (⟨#[]⟩)) (cond (Nat.beq m 18) (cX1_restore) (⟨#[]⟩))) (cond (Nat.ble m 19) (cond (Nat.beq m 19) (cX2_init) (⟨#[]⟩)) (cond (Nat.beq m 20) (cX2_size) (⟨#[]⟩))))) (cond (Nat.ble m 23) (cond (Nat.ble m 21) (cond (Nat.beq m 21) (cX2_cutTo) (⟨#[]⟩)) (cond (Nat.ble m 22) (cond (Nat.beq m 22) (cX2_letterOf) (⟨#[]⟩)) (cond (Nat.beq m 23) (cX2_outerOf) (⟨#[]⟩)))) (cond (Nat.ble m 25) (cond (Nat.ble m 24) (cond (Nat.beq m 24) (cX2_findOrAdd) (⟨#[]⟩)) (cond (Nat.beq m 25) (cX2_isWithin) (⟨#[]⟩))) (cond (Nat.ble m 26) (cond (Nat.beq m 26) (cX3_init) (⟨#[]⟩)) (cond (Nat.beq m 27) (cX3_begin) (⟨#[]⟩))))))) (cond (Nat.ble m 41) (cond (Nat.ble m 34) (cond (Nat.ble m 30) (cond (Nat.ble m 28) (cond (Nat.beq m 28) (cX3_isComplete) (⟨#[]⟩)) (cond (Nat.ble m 29) (cond (Nat.beq m 29) (cX3_take) (⟨#[]⟩)) (cond (Nat.beq m 30) (cX3_isDigit) (⟨#[]⟩)))) (cond (Nat.ble m 32) (cond (Nat.ble m 31) (cond (Nat.beq m 31) (cX3_takeSpace) (⟨#[]⟩)) (cond (Nat.beq m 32) (cX3_takeOpening) (⟨#[]⟩))) (cond (Nat.ble m 33) (cond (Nat.beq m 33) (cX3_takeClosing) (⟨#[]⟩)) (cond (Nat.beq m 34) (cX3_takeLetter) (⟨#[]⟩))))) (cond (Nat.ble m 37) (cond (Nat.ble m 35) (cond (Nat.beq m 35) (cX3_takeColon) (⟨#[]⟩)) (cond (Nat.ble m 36) (cond (Nat.beq m 36) (cX3_takeFirstDigit) (⟨#[]⟩)) (cond (Nat.beq m 37) (cX3_takeNextDigit) (⟨#[]⟩)))) (cond (Nat.ble m 39) (cond (Nat.ble m 38) (cond (Nat.beq m 38) (cX3_takeFieldEnd) (⟨#[]⟩)) (cond (Nat.beq m 39) (cX4_init) (⟨#[]⟩))) (cond (Nat.ble m 40) (cond (Nat.beq m 40) (cX4_size) (⟨#[]⟩)) (cond (Nat.beq m 41) (cX4_at) (⟨#[]⟩)))))) (cond (Nat.ble m 48) (cond (Nat.ble m 44) (cond (Nat.ble m 42) (cond (Nat.beq m 42) (cX4_put) (⟨#[]⟩)) (cond (Nat.ble m 43) (cond (Nat.beq m 43) (cX4_add) (⟨#[]⟩)) (cond (Nat.beq m 44) (cX4_cutTo) (⟨#[]⟩)))) (cond (Nat.ble m 46) (cond (Nat.ble m 45) (cond (Nat.beq m 45) (cX4_copyFrom) (⟨#[]⟩)) (cond (Nat.beq m 46) (cX5_init) (⟨#[]⟩))) (cond (Nat.ble m 47) (cond (Nat.beq m 47) (cX5_formAt) (⟨#[]⟩)) (cond (Nat.beq m 48) (cX5_numberFor) (⟨#[]⟩))))) (cond (Nat.ble m 52) (cond (Nat.ble m 50) (cond (Nat.ble m 49) (cond (Nat.beq m 49) (cX5_keep) (⟨#[]⟩)) (cond (Nat.beq m 50) (cX6_init) (⟨#[]⟩))) (cond (Nat.ble m 51) (cond (Nat.beq m 51) (cX6_copyFrom) (⟨#[]⟩)) (cond (Nat.beq m 52) (cX6_addRecord) (⟨#[]⟩)))) (cond (Nat.ble m 54) (cond (Nat.ble m 53) (cond (Nat.beq m 53) (cX6_shapeOf) (⟨#[]⟩)) (cond (Nat.beq m 54) (cX6_setShapeOf) (⟨#[]⟩))) (cond (Nat.ble m 55) (cond (Nat.beq m 55) (cX6_has) (⟨#[]⟩)) (cond (Nat.beq m 56) (cX6_recordsRead) (⟨#[]⟩)))))))) (cond (Nat.ble m 85) (cond (Nat.ble m 70) (cond (Nat.ble m 63) (cond (Nat.ble m 59) (cond (Nat.ble m 57) (cond (Nat.beq m 57) (cX6_recordsLeft) (⟨#[]⟩)) (cond (Nat.ble m 58) (cond (Nat.beq m 58) (cX6_recordsWith) (⟨#[]⟩)) (cond (Nat.beq m 59) (cX6_recordWith) (⟨#[]⟩)))) (cond (Nat.ble m 61) (cond (Nat.ble m 60) (cond (Nat.beq m 60) (cX6_valueAt) (⟨#[]⟩)) (cond (Nat.beq m 61) (cX6_setValue) (⟨#[]⟩))) (cond (Nat.ble m 62) (cond (Nat.beq m 62) (cX7_init) (⟨#[]⟩)) (cond (Nat.beq m 63) (cX7_append) (⟨#[]⟩))))) (cond (Nat.ble m 66) (cond (Nat.ble m 64) (cond (Nat.beq m 64) (cX7_clearText) (⟨#[]⟩)) (cond (Nat.ble m 65) (cond (Nat.beq m 65) (cX7_read) (⟨#[]⟩)) (cond (Nat.beq m 66) (cX7_discard) (⟨#[]⟩)))) (cond (Nat.ble m 68) (cond (Nat.ble m 67) (cond (Nat.beq m 67) (cX7_change) (⟨#[]⟩)) (cond (Nat.beq m 68) (cX7_drop) (⟨#[]⟩))) (cond (Nat.ble m 69) (cond (Nat.beq m 69) (cX7_setBound) (⟨#[]⟩)) (cond (Nat.beq m 70) (cX7_undo) (⟨#[]⟩)))))) (cond (Nat.ble m 77) (cond (Nat.ble m 73) (cond (Nat.ble m 71) (cond (Nat.beq m 71) (cX7_count) (⟨#[]⟩)) (cond (Nat.ble m 72) (cond (Nat.beq m 72) (cX7_record) (⟨#[]⟩)) (cond (Nat.beq m 73) (cX7_character) (⟨#[]⟩)))) (cond (Nat.ble m 75) (cond (Nat.ble m 74) (cond (Nat.beq m 74) (cX7_value) (⟨#[]⟩)) (cond (Nat.beq m 75) (cX7_path) (⟨#[]⟩))) (cond (Nat.ble m 76) (cond (Nat.beq m 76) (cX7_shape) (⟨#[]⟩)) (cond (Nat.beq m 77) (cX7_column) (⟨#[]⟩))))) (cond (Nat.ble m 81) (cond (Nat.ble m 79) (cond (Nat.ble m 78) (cond (Nat.beq m 78) (cX7_field) (⟨#[]⟩)) (cond (Nat.beq m 79) (cX7_sizeWith) (⟨#[]⟩))) (cond (Nat.ble m 80) (cond (Nat.beq m 80) (cX7_bestBound) (⟨#[]⟩)) (cond (Nat.beq m 81) (cX7_like) (⟨#[]⟩)))) (cond (Nat.ble m 83) (cond (Nat.ble m 82) (cond (Nat.beq m 82) (cX7_isPath) (⟨#[]⟩)) (cond (Nat.beq m 83) (cX7_isShape) (⟨#[]⟩))) (cond (Nat.ble m 84) (cond (Nat.beq m 84) (cX7_isBound) (⟨#[]⟩)) (cond (Nat.beq m 85) (cX7_isCommon) (⟨#[]⟩))))))) (cond (Nat.ble m 99) (cond (Nat.ble m 92) (cond (Nat.ble m 88) (cond (Nat.ble m 86) (cond (Nat.beq m 86) (cX7_formOf) (⟨#[]⟩)) (cond (Nat.ble m 87) (cond (Nat.beq m 87) (cX7_takeText) (⟨#[]⟩)) (cond (Nat.beq m 88) (cX7_learnShape) (⟨#[]⟩)))) (cond (Nat.ble m 90) (cond (Nat.ble m 89) (cond (Nat.beq m 89) (cX7_fillRemainder) (⟨#[]⟩)) (cond (Nat.beq m 90) (cX7_dropValues) (⟨#[]⟩))) (cond (Nat.ble m 91) (cond (Nat.beq m 91) (cX7_commonShapes) (⟨#[]⟩)) (cond (Nat.beq m 92) (cX7_rareRecords) (⟨#[]⟩))))) (cond (Nat.ble m 95) (cond (Nat.ble m 93) (cond (Nat.beq m 93) (cX7_sizeFor) (⟨#[]⟩)) (cond (Nat.ble m 94) (cond (Nat.beq m 94) (cX7_costOf) (⟨#[]⟩)) (cond (Nat.beq m 95) (cX7_recordsHolding) (⟨#[]⟩)))) (cond (Nat.ble m 97) (cond (Nat.ble m 96) (cond (Nat.beq m 96) (cX7_sumOfPath) (⟨#[]⟩)) (cond (Nat.beq m 97) (cX7_sumOfRecord) (⟨#[]⟩))) (cond (Nat.ble m 98) (cond (Nat.beq m 98) (cX7_writeText) (⟨#[]⟩)) (cond (Nat.beq m 99) (cX7_writeClosings) (⟨#[]⟩)))))) (cond (Nat.ble m 106) (cond (Nat.ble m 102) (cond (Nat.ble m 100) (cond (Nat.beq m 100) (cX7_writeName) (⟨#[]⟩)) (cond (Nat.ble m 101) (cond (Nat.beq m 101) (cX7_writeNumber) (⟨#[]⟩)) (cond (Nat.beq m 102) (cL_up) (⟨#[]⟩)))) (cond (Nat.ble m 104) (cond (Nat.ble m 103) (cond (Nat.beq m 103) (cL_mark) (⟨#[]⟩)) (cond (Nat.beq m 104) (cL_fails) (⟨#[]⟩))) (cond (Nat.ble m 105) (cond (Nat.beq m 105) (cL_types) (⟨#[]⟩)) (cond (Nat.beq m 106) (cL_put) (⟨#[]⟩))))) (cond (Nat.ble m 110) (cond (Nat.ble m 108) (cond (Nat.ble m 107) (cond (Nat.beq m 107) (cL_text) (⟨#[]⟩)) (cond (Nat.beq m 108) (cL_shapes) (⟨#[]⟩))) (cond (Nat.ble m 109) (cond (Nat.beq m 109) (cL_leafOf) (⟨#[]⟩)) (cond (Nat.beq m 110) (cL_paths) (⟨#[]⟩)))) (cond (Nat.ble m 112) (cond (Nat.ble m 111) (cond (Nat.beq m 111) (cL_like) (⟨#[]⟩)) (cond (Nat.beq m 112) (cL_sound) (⟨#[]⟩))) (cond (Nat.ble m 113) (cond (Nat.beq m 113) (cL_again) (⟨#[]⟩)) (cond (Nat.beq m 114) (cL_acts) (⟨#[]⟩))))))))
def qret (m : Nat) : Option FieldType := cond (Nat.ble m 56) (cond (Nat.ble m 27) (cond (Nat.ble m 13) (cond (Nat.ble m 6) (cond (Nat.ble m 2) (cond (Nat.ble m 0) (cond (Nat.beq m 0) (none) (none)) (cond (Nat.ble m 1) (cond (Nat.beq m 1) (none) (none)) (cond (Nat.beq m 2) (none) (none)))) (cond (Nat.ble m 4) (cond (Nat.ble m 3) (cond (Nat.beq m 3) (none) (none)) (cond (Nat.beq m 4) (some .int) (none))) (cond (Nat.ble m 5) (cond (Nat.beq m 5) (some .int) (none)) (cond (Nat.beq m 6) (some .int) (none))))) (cond (Nat.ble m 9) (cond (Nat.ble m 7) (cond (Nat.beq m 7) (some .int) (none)) (cond (Nat.ble m 8) (cond (Nat.beq m 8) (some .boolean) (none)) (cond (Nat.beq m 9) (some .int) (none)))) (cond (Nat.ble m 11) (cond (Nat.ble m 10) (cond (Nat.beq m 10) (some .boolean) (none)) (cond (Nat.beq m 11) (some .int) (none))) (cond (Nat.ble m 12) (cond (Nat.beq m 12) (some .boolean) (none)) (cond (Nat.beq m 13) (some .int) (none)))))) (cond (Nat.ble m 20) (cond (Nat.ble m 16) (cond (Nat.ble m 14) (cond (Nat.beq m 14) (none) (none)) (cond (Nat.ble m 15) (cond (Nat.beq m 15) (some .int) (none)) (cond (Nat.beq m 16) (none) (none)))) (cond (Nat.ble m 18) (cond (Nat.ble m 17) (cond (Nat.beq m 17) (none) (none)) (cond (Nat.beq m 18) (none) (none))) (cond (Nat.ble m 19) (cond (Nat.beq m 19) (none) (none)) (cond (Nat.beq m 20) (some .int) (none))))) (cond (Nat.ble m 23) (cond (Nat.ble m 21) (cond (Nat.beq m 21) (none) (none)) (cond (Nat.ble m 22) (cond (Nat.beq m 22) (some .int) (none)) (cond (Nat.beq m 23) (some .int) (none)))) (cond (Nat.ble m 25) (cond (Nat.ble m 24) (cond (Nat.beq m 24) (some .int) (none)) (cond (Nat.beq m 25) (some .boolean) (none))) (cond (Nat.ble m 26) (cond (Nat.beq m 26) (none) (none)) (cond (Nat.beq m 27) (none) (none))))))) (cond (Nat.ble m 41) (cond (Nat.ble m 34) (cond (Nat.ble m 30) (cond (Nat.ble m 28) (cond (Nat.beq m 28) (some .boolean) (none)) (cond (Nat.ble m 29) (cond (Nat.beq m 29) (some .boolean) (none)) (cond (Nat.beq m 30) (some .boolean) (none)))) (cond (Nat.ble m 32) (cond (Nat.ble m 31) (cond (Nat.beq m 31) (none) (none)) (cond (Nat.beq m 32) (some .boolean) (none))) (cond (Nat.ble m 33) (cond (Nat.beq m 33) (some .boolean) (none)) (cond (Nat.beq m 34) (some .boolean) (none))))) (cond (Nat.ble m 37) (cond (Nat.ble m 35) (cond (Nat.beq m 35) (some .boolean) (none)) (cond (Nat.ble m 36) (cond (Nat.beq m 36) (some .boolean) (none)) (cond (Nat.beq m 37) (some .boolean) (none)))) (cond (Nat.ble m 39) (cond (Nat.ble m 38) (cond (Nat.beq m 38) (some .boolean) (none)) (cond (Nat.beq m 39) (none) (none))) (cond (Nat.ble m 40) (cond (Nat.beq m 40) (some .int) (none)) (cond (Nat.beq m 41) (some .int) (none)))))) (cond (Nat.ble m 48) (cond (Nat.ble m 44) (cond (Nat.ble m 42) (cond (Nat.beq m 42) (none) (none)) (cond (Nat.ble m 43) (cond (Nat.beq m 43) (none) (none)) (cond (Nat.beq m 44) (none) (none)))) (cond (Nat.ble m 46) (cond (Nat.ble m 45) (cond (Nat.beq m 45) (none) (none)) (cond (Nat.beq m 46) (none) (none))) (cond (Nat.ble m 47) (cond (Nat.beq m 47) (some (.object "LikeRecords$Form")) (none)) (cond (Nat.beq m 48) (some .int) (none))))) (cond (Nat.ble m 52) (cond (Nat.ble m 50) (cond (Nat.ble m 49) (cond (Nat.beq m 49) (none) (none)) (cond (Nat.beq m 50) (none) (none))) (cond (Nat.ble m 51) (cond (Nat.beq m 51) (none) (none)) (cond (Nat.beq m 52) (some .int) (none)))) (cond (Nat.ble m 54) (cond (Nat.ble m 53) (cond (Nat.beq m 53) (some .int) (none)) (cond (Nat.beq m 54) (none) (none))) (cond (Nat.ble m 55) (cond (Nat.beq m 55) (some .boolean) (none)) (cond (Nat.beq m 56) (some .int) (none)))))))) (cond (Nat.ble m 85) (cond (Nat.ble m 70) (cond (Nat.ble m 63) (cond (Nat.ble m 59) (cond (Nat.ble m 57) (cond (Nat.beq m 57) (some .int) (none)) (cond (Nat.ble m 58) (cond (Nat.beq m 58) (some .int) (none)) (cond (Nat.beq m 59) (some .int) (none)))) (cond (Nat.ble m 61) (cond (Nat.ble m 60) (cond (Nat.beq m 60) (some .int) (none)) (cond (Nat.beq m 61) (none) (none))) (cond (Nat.ble m 62) (cond (Nat.beq m 62) (none) (none)) (cond (Nat.beq m 63) (some .int) (none))))) (cond (Nat.ble m 66) (cond (Nat.ble m 64) (cond (Nat.beq m 64) (some .int) (none)) (cond (Nat.ble m 65) (cond (Nat.beq m 65) (some .int) (none)) (cond (Nat.beq m 66) (some .int) (none)))) (cond (Nat.ble m 68) (cond (Nat.ble m 67) (cond (Nat.beq m 67) (some .int) (none)) (cond (Nat.beq m 68) (some .int) (none))) (cond (Nat.ble m 69) (cond (Nat.beq m 69) (some .int) (none)) (cond (Nat.beq m 70) (some .int) (none)))))) (cond (Nat.ble m 77) (cond (Nat.ble m 73) (cond (Nat.ble m 71) (cond (Nat.beq m 71) (some .int) (none)) (cond (Nat.ble m 72) (cond (Nat.beq m 72) (some .int) (none)) (cond (Nat.beq m 73) (some .int) (none)))) (cond (Nat.ble m 75) (cond (Nat.ble m 74) (cond (Nat.beq m 74) (some .int) (none)) (cond (Nat.beq m 75) (some .int) (none))) (cond (Nat.ble m 76) (cond (Nat.beq m 76) (some .int) (none)) (cond (Nat.beq m 77) (some .int) (none))))) (cond (Nat.ble m 81) (cond (Nat.ble m 79) (cond (Nat.ble m 78) (cond (Nat.beq m 78) (some .int) (none)) (cond (Nat.beq m 79) (some .int) (none))) (cond (Nat.ble m 80) (cond (Nat.beq m 80) (some .int) (none)) (cond (Nat.beq m 81) (some .int) (none)))) (cond (Nat.ble m 83) (cond (Nat.ble m 82) (cond (Nat.beq m 82) (some .boolean) (none)) (cond (Nat.beq m 83) (some .boolean) (none))) (cond (Nat.ble m 84) (cond (Nat.beq m 84) (some .boolean) (none)) (cond (Nat.beq m 85) (some .boolean) (none))))))) (cond (Nat.ble m 99) (cond (Nat.ble m 92) (cond (Nat.ble m 88) (cond (Nat.ble m 86) (cond (Nat.beq m 86) (some (.object "LikeRecords$Form")) (none)) (cond (Nat.ble m 87) (cond (Nat.beq m 87) (some .int) (none)) (cond (Nat.beq m 88) (none) (none)))) (cond (Nat.ble m 90) (cond (Nat.ble m 89) (cond (Nat.beq m 89) (none) (none)) (cond (Nat.beq m 90) (none) (none))) (cond (Nat.ble m 91) (cond (Nat.beq m 91) (some .int) (none)) (cond (Nat.beq m 92) (some .int) (none))))) (cond (Nat.ble m 95) (cond (Nat.ble m 93) (cond (Nat.beq m 93) (some .int) (none)) (cond (Nat.ble m 94) (cond (Nat.beq m 94) (some .int) (none)) (cond (Nat.beq m 95) (some .int) (none)))) (cond (Nat.ble m 97) (cond (Nat.ble m 96) (cond (Nat.beq m 96) (some .int) (none)) (cond (Nat.beq m 97) (some .int) (none))) (cond (Nat.ble m 98) (cond (Nat.beq m 98) (some .int) (none)) (cond (Nat.beq m 99) (some .int) (none)))))) (cond (Nat.ble m 106) (cond (Nat.ble m 102) (cond (Nat.ble m 100) (cond (Nat.beq m 100) (none) (none)) (cond (Nat.ble m 101) (cond (Nat.beq m 101) (none) (none)) (cond (Nat.beq m 102) (some .int) (none)))) (cond (Nat.ble m 104) (cond (Nat.ble m 103) (cond (Nat.beq m 103) (some .long) (none)) (cond (Nat.beq m 104) (some .boolean) (none))) (cond (Nat.ble m 105) (cond (Nat.beq m 105) (none) (none)) (cond (Nat.beq m 106) (some .int) (none))))) (cond (Nat.ble m 110) (cond (Nat.ble m 108) (cond (Nat.ble m 107) (cond (Nat.beq m 107) (some .boolean) (none)) (cond (Nat.beq m 108) (some .boolean) (none))) (cond (Nat.ble m 109) (cond (Nat.beq m 109) (some .int) (none)) (cond (Nat.beq m 110) (some .boolean) (none)))) (cond (Nat.ble m 112) (cond (Nat.ble m 111) (cond (Nat.beq m 111) (some .boolean) (none)) (cond (Nat.beq m 112) (some .boolean) (none))) (cond (Nat.ble m 113) (cond (Nat.beq m 113) (some .boolean) (none)) (cond (Nat.beq m 114) (some .boolean) (none))))))))
def qfr (m : Nat) : Nat × Nat := cond (Nat.ble m 56) (cond (Nat.ble m 27) (cond (Nat.ble m 13) (cond (Nat.ble m 6) (cond (Nat.ble m 2) (cond (Nat.ble m 0) (cond (Nat.beq m 0) ((2, 42)) ((0, 0))) (cond (Nat.ble m 1) (cond (Nat.beq m 1) ((1, 21)) ((0, 0))) (cond (Nat.beq m 2) ((1, 21)) ((0, 0))))) (cond (Nat.ble m 4) (cond (Nat.ble m 3) (cond (Nat.beq m 3) ((2, 43)) ((0, 0))) (cond (Nat.beq m 4) ((1, 20)) ((0, 0)))) (cond (Nat.ble m 5) (cond (Nat.beq m 5) ((0, 0)) ((0, 0))) (cond (Nat.beq m 6) ((1, 20)) ((0, 0)))))) (cond (Nat.ble m 9) (cond (Nat.ble m 7) (cond (Nat.beq m 7) ((1, 21)) ((0, 0))) (cond (Nat.ble m 8) (cond (Nat.beq m 8) ((1, 21)) ((0, 0))) (cond (Nat.beq m 9) ((1, 21)) ((0, 0))))) (cond (Nat.ble m 11) (cond (Nat.ble m 10) (cond (Nat.beq m 10) ((1, 21)) ((0, 0))) (cond (Nat.beq m 11) ((2, 42)) ((0, 0)))) (cond (Nat.ble m 12) (cond (Nat.beq m 12) ((2, 42)) ((0, 0))) (cond (Nat.beq m 13) ((2, 43)) ((0, 0))))))) (cond (Nat.ble m 20) (cond (Nat.ble m 16) (cond (Nat.ble m 14) (cond (Nat.beq m 14) ((3, 62)) ((0, 0))) (cond (Nat.ble m 15) (cond (Nat.beq m 15) ((0, 0)) ((0, 0))) (cond (Nat.beq m 16) ((3, 64)) ((0, 0))))) (cond (Nat.ble m 18) (cond (Nat.ble m 17) (cond (Nat.beq m 17) ((0, 0)) ((0, 0))) (cond (Nat.beq m 18) ((3, 64)) ((0, 0)))) (cond (Nat.ble m 19) (cond (Nat.beq m 19) ((2, 42)) ((0, 0))) (cond (Nat.beq m 20) ((1, 20)) ((0, 0)))))) (cond (Nat.ble m 23) (cond (Nat.ble m 21) (cond (Nat.beq m 21) ((1, 21)) ((0, 0))) (cond (Nat.ble m 22) (cond (Nat.beq m 22) ((1, 21)) ((0, 0))) (cond (Nat.beq m 23) ((1, 21)) ((0, 0))))) (cond (Nat.ble m 25) (cond (Nat.ble m 24) (cond (Nat.beq m 24) ((1, 21)) ((0, 0))) (cond (Nat.beq m 25) ((1, 21)) ((0, 0)))) (cond (Nat.ble m 26) (cond (Nat.beq m 26) ((3, 62)) ((0, 0))) (cond (Nat.beq m 27) ((2, 42)) ((0, 0)))))))) (cond (Nat.ble m 41) (cond (Nat.ble m 34) (cond (Nat.ble m 30) (cond (Nat.ble m 28) (cond (Nat.beq m 28) ((0, 0)) ((0, 0))) (cond (Nat.ble m 29) (cond (Nat.beq m 29) ((4, 83)) ((0, 0))) (cond (Nat.beq m 30) ((0, 0)) ((0, 0))))) (cond (Nat.ble m 32) (cond (Nat.ble m 31) (cond (Nat.beq m 31) ((0, 0)) ((0, 0))) (cond (Nat.beq m 32) ((2, 42)) ((0, 0)))) (cond (Nat.ble m 33) (cond (Nat.beq m 33) ((2, 42)) ((0, 0))) (cond (Nat.beq m 34) ((2, 44)) ((0, 0)))))) (cond (Nat.ble m 37) (cond (Nat.ble m 35) (cond (Nat.beq m 35) ((0, 0)) ((0, 0))) (cond (Nat.ble m 36) (cond (Nat.beq m 36) ((2, 42)) ((0, 0))) (cond (Nat.beq m 37) ((1, 22)) ((0, 0))))) (cond (Nat.ble m 39) (cond (Nat.ble m 38) (cond (Nat.beq m 38) ((3, 62)) ((0, 0))) (cond (Nat.beq m 39) ((1, 21)) ((0, 0)))) (cond (Nat.ble m 40) (cond (Nat.beq m 40) ((0, 0)) ((0, 0))) (cond (Nat.beq m 41) ((0, 0)) ((0, 0))))))) (cond (Nat.ble m 48) (cond (Nat.ble m 44) (cond (Nat.ble m 42) (cond (Nat.beq m 42) ((0, 0)) ((0, 0))) (cond (Nat.ble m 43) (cond (Nat.beq m 43) ((0, 0)) ((0, 0))) (cond (Nat.beq m 44) ((0, 0)) ((0, 0))))) (cond (Nat.ble m 46) (cond (Nat.ble m 45) (cond (Nat.beq m 45) ((1, 21)) ((0, 0))) (cond (Nat.beq m 46) ((3, 62)) ((0, 0)))) (cond (Nat.ble m 47) (cond (Nat.beq m 47) ((0, 0)) ((0, 0))) (cond (Nat.beq m 48) ((3, 64)) ((0, 0)))))) (cond (Nat.ble m 52) (cond (Nat.ble m 50) (cond (Nat.ble m 49) (cond (Nat.beq m 49) ((3, 64)) ((0, 0))) (cond (Nat.beq m 50) ((2, 42)) ((0, 0)))) (cond (Nat.ble m 51) (cond (Nat.beq m 51) ((2, 43)) ((0, 0))) (cond (Nat.beq m 52) ((1, 21)) ((0, 0))))) (cond (Nat.ble m 54) (cond (Nat.ble m 53) (cond (Nat.beq m 53) ((1, 21)) ((0, 0))) (cond (Nat.beq m 54) ((1, 22)) ((0, 0)))) (cond (Nat.ble m 55) (cond (Nat.beq m 55) ((1, 21)) ((0, 0))) (cond (Nat.beq m 56) ((1, 20)) ((0, 0))))))))) (cond (Nat.ble m 85) (cond (Nat.ble m 70) (cond (Nat.ble m 63) (cond (Nat.ble m 59) (cond (Nat.ble m 57) (cond (Nat.beq m 57) ((2, 42)) ((0, 0))) (cond (Nat.ble m 58) (cond (Nat.beq m 58) ((1, 21)) ((0, 0))) (cond (Nat.beq m 59) ((1, 21)) ((0, 0))))) (cond (Nat.ble m 61) (cond (Nat.ble m 60) (cond (Nat.beq m 60) ((1, 21)) ((0, 0))) (cond (Nat.beq m 61) ((1, 22)) ((0, 0)))) (cond (Nat.ble m 62) (cond (Nat.beq m 62) ((4, 83)) ((0, 0))) (cond (Nat.beq m 63) ((1, 21)) ((0, 0)))))) (cond (Nat.ble m 66) (cond (Nat.ble m 64) (cond (Nat.beq m 64) ((1, 21)) ((0, 0))) (cond (Nat.ble m 65) (cond (Nat.beq m 65) ((6, 125)) ((0, 0))) (cond (Nat.beq m 66) ((4, 86)) ((0, 0))))) (cond (Nat.ble m 68) (cond (Nat.ble m 67) (cond (Nat.beq m 67) ((4, 86)) ((0, 0))) (cond (Nat.beq m 68) ((5, 108)) ((0, 0)))) (cond (Nat.ble m 69) (cond (Nat.beq m 69) ((4, 87)) ((0, 0))) (cond (Nat.beq m 70) ((4, 86)) ((0, 0))))))) (cond (Nat.ble m 77) (cond (Nat.ble m 73) (cond (Nat.ble m 71) (cond (Nat.beq m 71) ((4, 89)) ((0, 0))) (cond (Nat.ble m 72) (cond (Nat.beq m 72) ((4, 92)) ((0, 0))) (cond (Nat.beq m 73) ((4, 92)) ((0, 0))))) (cond (Nat.ble m 75) (cond (Nat.ble m 74) (cond (Nat.beq m 74) ((3, 65)) ((0, 0))) (cond (Nat.beq m 75) ((4, 89)) ((0, 0)))) (cond (Nat.ble m 76) (cond (Nat.beq m 76) ((4, 92)) ((0, 0))) (cond (Nat.beq m 77) ((3, 65)) ((0, 0)))))) (cond (Nat.ble m 81) (cond (Nat.ble m 79) (cond (Nat.ble m 78) (cond (Nat.beq m 78) ((2, 42)) ((0, 0))) (cond (Nat.beq m 79) ((4, 89)) ((0, 0)))) (cond (Nat.ble m 80) (cond (Nat.beq m 80) ((4, 89)) ((0, 0))) (cond (Nat.beq m 81) ((3, 66)) ((0, 0))))) (cond (Nat.ble m 83) (cond (Nat.ble m 82) (cond (Nat.beq m 82) ((0, 0)) ((0, 0))) (cond (Nat.beq m 83) ((0, 0)) ((0, 0)))) (cond (Nat.ble m 84) (cond (Nat.beq m 84) ((0, 0)) ((0, 0))) (cond (Nat.beq m 85) ((2, 44)) ((0, 0)))))))) (cond (Nat.ble m 99) (cond (Nat.ble m 92) (cond (Nat.ble m 88) (cond (Nat.ble m 86) (cond (Nat.beq m 86) ((2, 42)) ((0, 0))) (cond (Nat.ble m 87) (cond (Nat.beq m 87) ((5, 104)) ((0, 0))) (cond (Nat.beq m 88) ((4, 86)) ((0, 0))))) (cond (Nat.ble m 90) (cond (Nat.ble m 89) (cond (Nat.beq m 89) ((2, 45)) ((0, 0))) (cond (Nat.beq m 90) ((2, 45)) ((0, 0)))) (cond (Nat.ble m 91) (cond (Nat.beq m 91) ((3, 65)) ((0, 0))) (cond (Nat.beq m 92) ((3, 65)) ((0, 0)))))) (cond (Nat.ble m 95) (cond (Nat.ble m 93) (cond (Nat.beq m 93) ((3, 64)) ((0, 0))) (cond (Nat.ble m 94) (cond (Nat.beq m 94) ((3, 65)) ((0, 0))) (cond (Nat.beq m 95) ((2, 44)) ((0, 0))))) (cond (Nat.ble m 97) (cond (Nat.ble m 96) (cond (Nat.beq m 96) ((3, 65)) ((0, 0))) (cond (Nat.beq m 97) ((2, 43)) ((0, 0)))) (cond (Nat.ble m 98) (cond (Nat.beq m 98) ((3, 66)) ((0, 0))) (cond (Nat.beq m 99) ((2, 42)) ((0, 0))))))) (cond (Nat.ble m 106) (cond (Nat.ble m 102) (cond (Nat.ble m 100) (cond (Nat.beq m 100) ((2, 42)) ((0, 0))) (cond (Nat.ble m 101) (cond (Nat.beq m 101) ((1, 21)) ((0, 0))) (cond (Nat.beq m 102) ((0, 0)) ((0, 0))))) (cond (Nat.ble m 104) (cond (Nat.ble m 103) (cond (Nat.beq m 103) ((5, 115)) ((0, 0))) (cond (Nat.beq m 104) ((6, 139)) ((0, 0)))) (cond (Nat.ble m 105) (cond (Nat.beq m 105) ((3, 65)) ((0, 0))) (cond (Nat.beq m 106) ((2, 42)) ((0, 0)))))) (cond (Nat.ble m 110) (cond (Nat.ble m 108) (cond (Nat.ble m 107) (cond (Nat.beq m 107) ((5, 115)) ((0, 0))) (cond (Nat.beq m 108) ((6, 140)) ((0, 0)))) (cond (Nat.ble m 109) (cond (Nat.beq m 109) ((5, 115)) ((0, 0))) (cond (Nat.beq m 110) ((5, 115)) ((0, 0))))) (cond (Nat.ble m 112) (cond (Nat.ble m 111) (cond (Nat.beq m 111) ((5, 115)) ((0, 0))) (cond (Nat.beq m 112) ((7, 171)) ((0, 0)))) (cond (Nat.ble m 113) (cond (Nat.beq m 113) ((7, 147)) ((0, 0))) (cond (Nat.beq m 114) ((7, 147)) ((0, 0)))))))))
def qR (c : Nat) : String := cond (Nat.ble c 3) (cond (Nat.ble c 1) (cond (Nat.ble c 0) (cond (Nat.beq c 0) (RX0) ("")) (cond (Nat.beq c 1) (RX1) (""))) (cond (Nat.ble c 2) (cond (Nat.beq c 2) (RX2) ("")) (cond (Nat.beq c 3) (RX3) ("")))) (cond (Nat.ble c 5) (cond (Nat.ble c 4) (cond (Nat.beq c 4) (RX4) ("")) (cond (Nat.beq c 5) (RX5) (""))) (cond (Nat.ble c 6) (cond (Nat.beq c 6) (RX6) ("")) (cond (Nat.ble c 7) (cond (Nat.beq c 7) (RX7) ("")) (cond (Nat.beq c 8) (RL) ("")))))
def qT (c : Nat) : u_T := cond (Nat.ble c 3) (cond (Nat.ble c 1) (cond (Nat.ble c 0) (cond (Nat.beq c 0) (TX0) (TX0)) (cond (Nat.beq c 1) (TX1) (TX0))) (cond (Nat.ble c 2) (cond (Nat.beq c 2) (TX2) (TX0)) (cond (Nat.beq c 3) (TX3) (TX0)))) (cond (Nat.ble c 5) (cond (Nat.ble c 4) (cond (Nat.beq c 4) (TX4) (TX0)) (cond (Nat.beq c 5) (TX5) (TX0))) (cond (Nat.ble c 6) (cond (Nat.beq c 6) (TX6) (TX0)) (cond (Nat.beq c 7) (TX7) (TX0))))
def qty (c : Nat) : Nat → FieldType := cond (Nat.ble c 3) (cond (Nat.ble c 1) (cond (Nat.ble c 0) (cond (Nat.beq c 0) (tyX0) (tyX0)) (cond (Nat.beq c 1) (tyX1) (tyX0))) (cond (Nat.ble c 2) (cond (Nat.beq c 2) (tyX2) (tyX0)) (cond (Nat.beq c 3) (tyX3) (tyX0)))) (cond (Nat.ble c 5) (cond (Nat.ble c 4) (cond (Nat.beq c 4) (tyX4) (tyX0)) (cond (Nat.beq c 5) (tyX5) (tyX0))) (cond (Nat.ble c 6) (cond (Nat.beq c 6) (tyX6) (tyX0)) (cond (Nat.beq c 7) (tyX7) (tyX0))))
def qfl : List (Nat × Nat × Nat × Nat × Nat) := [(0, 14, 0, 0, 93), (0, 20, 0, 1, 94), (1, 11, 1, 0, 181), (1, 18, 1, 1, 182), (2, 14, 2, 0, 78), (2, 20, 2, 1, 79), (3, 12, 3, 0, 102), (3, 21, 3, 1, 104), (3, 30, 3, 2, 106), (3, 34, 3, 3, 108), (3, 38, 3, 4, 109), (3, 41, 3, 5, 110), (3, 44, 3, 6, 111), (4, 15, 4, 0, 56), (4, 21, 4, 1, 57), (5, 11, 5, 0, 136), (5, 18, 5, 1, 137), (6, 14, 6, 0, 153), (6, 20, 6, 1, 154), (6, 23, 6, 2, 155), (6, 27, 6, 3, 157), (6, 30, 6, 4, 159), (7, 14, 7, 0, 188), (7, 18, 7, 1, 189), (7, 24, 7, 2, 190), (7, 28, 3, 0, 103), (7, 32, 7, 3, 191), (7, 36, 7, 4, 192), (7, 43, 7, 5, 193), (7, 50, 7, 6, 194), (7, 57, 7, 7, 195), (7, 71, 6, 2, 156), (7, 85, 3, 1, 105), (7, 88, 6, 3, 158), (7, 109, 3, 2, 107), (7, 160, 6, 4, 160)]
theorem qfl_ok : qfl.all (fun q => decide (lw_tbl[q.2.2.2.2]? = some (Cond.fieldLink (qR q.1) q.2.1 (qT q.2.2.1 q.2.2.2.1).1 (qT q.2.2.1 q.2.2.2.1).2.1 (qT q.2.2.1 q.2.2.2.1).2.2.1))) = true := by decide +kernel
def qml : List (Nat × Nat × Nat × Nat) := [(0, 11, 39, 92), (0, 24, 44, 233), (0, 27, 43, 263), (0, 30, 45, 382), (0, 34, 40, 290), (0, 38, 41, 291), (0, 42, 8, 527), (0, 46, 4, 334), (0, 47, 7, 338), (0, 48, 10, 629), (1, 17, 50, 180), (1, 22, 17, 355), (1, 25, 51, 359), (2, 11, 39, 77), (2, 23, 40, 284), (2, 27, 44, 225), (2, 30, 41, 275), (2, 34, 43, 285), (3, 11, 19, 72), (3, 20, 0, 87), (3, 27, 39, 101), (3, 47, 21, 221), (3, 50, 1, 229), (3, 53, 44, 234), (3, 54, 31, 251), (3, 57, 32, 255), (3, 61, 33, 267), (3, 65, 34, 276), (3, 69, 35, 292), (3, 72, 30, 296), (3, 75, 36, 299), (3, 78, 37, 305), (3, 81, 38, 314), (3, 84, 2, 259), (3, 87, 23, 271), (3, 91, 24, 280), (3, 95, 10, 286), (3, 98, 40, 303), (3, 102, 43, 304), (3, 103, 41, 309), (3, 106, 42, 310), (4, 25, 40, 367), (4, 28, 41, 368), (4, 32, 43, 369), (5, 17, 0, 135), (5, 22, 47, 326), (5, 26, 12, 330), (5, 30, 3, 378), (6, 11, 39, 152), (6, 33, 45, 363), (6, 37, 43, 388), (6, 40, 41, 389), (6, 44, 40, 346), (6, 48, 42, 570), (6, 52, 55, 410), (7, 11, 39, 49), (7, 23, 26, 66), (7, 35, 46, 129), (7, 42, 0, 144), (7, 49, 50, 147), (7, 56, 14, 174), (7, 61, 40, 239), (7, 65, 43, 481), (7, 68, 44, 383), (7, 75, 27, 217), (7, 78, 87, 235), (7, 81, 28, 318), (7, 91, 48, 322), (7, 95, 56, 342), (7, 98, 20, 347), (7, 101, 16, 351), (7, 105, 88, 370), (7, 112, 52, 384), (7, 116, 55, 468), (7, 120, 54, 566), (7, 124, 57, 406), (7, 127, 82, 519), (7, 130, 86, 469), (7, 134, 11, 523), (7, 138, 60, 503), (7, 142, 61, 575), (7, 146, 10, 536), (7, 149, 89, 583), (7, 153, 90, 593), (7, 157, 84, 601), (7, 163, 91, 414), (7, 166, 15, 394), (7, 167, 18, 398), (7, 170, 92, 426), (7, 173, 93, 430), (7, 176, 53, 473), (7, 179, 5, 436), (7, 182, 6, 440), (7, 185, 98, 477), (7, 188, 97, 511), (7, 191, 41, 243), (7, 194, 22, 495), (7, 197, 23, 486), (7, 200, 95, 532), (7, 203, 96, 537), (7, 206, 94, 541), (7, 209, 83, 549), (7, 212, 47, 434), (7, 215, 58, 422), (7, 218, 85, 418), (7, 221, 59, 613), (7, 224, 4, 435), (7, 225, 7, 557), (7, 226, 13, 625), (7, 230, 29, 247), (7, 233, 49, 374), (7, 235, 1, 587), (7, 238, 9, 482), (7, 241, 25, 588), (7, 245, 2, 592), (7, 246, 8, 499), (7, 249, 99, 487), (7, 252, 100, 491), (7, 255, 101, 507), (8, 13, 71, 402), (8, 19, 72, 464), (8, 23, 74, 515), (8, 26, 75, 528), (8, 29, 76, 545), (8, 32, 78, 553), (8, 35, 103, 459), (8, 41, 63, 558), (8, 44, 66, 562), (8, 47, 67, 571), (8, 51, 68, 579), (8, 54, 69, 597), (8, 57, 73, 605), (8, 60, 77, 609), (8, 63, 79, 617), (8, 66, 81, 621), (8, 69, 64, 651), (8, 73, 106, 661), (8, 78, 102, 452), (8, 81, 109, 645), (8, 85, 80, 444), (8, 88, 107, 633), (8, 92, 111, 636), (8, 94, 110, 639), (8, 97, 108, 642), (8, 101, 65, 213), (8, 104, 70, 390), (8, 107, 105, 658)]
theorem qml_ok : qml.all (fun q => decide (lw_tbl[q.2.2.2]? = some (Cond.methodLink (qR q.1) q.2.1 (qy q.2.2.1)))) = true := by decide +kernel
def qcl : List (Nat × Nat × Nat × Nat) := [(0, 9, 4, 91), (1, 9, 6, 178), (2, 9, 4, 76), (3, 9, 2, 70), (3, 18, 0, 85), (3, 25, 4, 100), (5, 9, 0, 133), (6, 9, 4, 151), (7, 9, 4, 47), (7, 21, 3, 64), (7, 33, 5, 127), (7, 40, 0, 143), (7, 47, 6, 145), (7, 54, 1, 172)]
theorem qcl_ok : qcl.all (fun q => decide (lw_tbl[q.2.2.2]? = some (Cond.classLink (qR q.1) q.2.1 (qR q.2.2.1)))) = true := by decide +kernel
def qmx : List (Nat × Nat × Nat) := [(4, 9, 53)]
theorem qmx_ok : qmx.all (fun q => decide (lw_tbl[q.2.2]? = some (Cond.methodLink (qR q.1) q.2.1 Lib.Math.max.name))) = true := by decide +kernel
def qoi : List (Nat × Nat × Nat) := [(0, 3, 90), (1, 3, 177), (2, 3, 75), (3, 3, 69), (4, 3, 52), (5, 3, 132), (6, 3, 150), (7, 3, 44)]
theorem qoi_ok : qoi.all (fun q => decide (lw_tbl[q.2.2]? = some (Cond.methodLink (qR q.1) q.2.1 Lib.objectInit))) = true := by decide +kernel
theorem qw_max : lw_tbl[54]? = some (Cond.static Lib.Math.max.name) ∧ lw_tbl[32]? = some (Cond.initialized "java/lang/Math") ∧ lw_tbl[55]? = some (Cond.code Lib.Math.max.name Lib.Math.max.code 2 (some .int)) := by decide +kernel
theorem qw_oin : lw_tbl[45]? = some (Cond.instanceMethod Lib.objectInit) ∧ lw_tbl[46]? = some (Cond.code Lib.objectInit ⟨#[0xb1]⟩ 1 none) := by decide +kernel
theorem qw_arr : lw_tbl[63]? = some (Cond.arrayClass .int) := by decide +kernel
def qao : List (Nat × Nat) := [(0, 134), (6, 179)]
theorem qao_ok : qao.all (fun q => decide (lw_tbl[q.2]? = some (Cond.arrayOver (.object (qR q.1))))) = true := by decide +kernel
def qld : List (Nat × Int × Nat) := [(8, 2147483647, 455), (77, 1103515245, 664)]
theorem qld_ok : qld.all (fun q => decide (lw_tbl[q.2.2]? = some (Cond.constant (qR 8) q.1 (Int32.ofInt q.2.1)))) = true := by decide +kernel
def qll : List (Nat × Int × Nat) := [(9, 17, 462), (11, 31, 463)]
theorem qll_ok : qll.all (fun q => decide (lw_tbl[q.2.2]? = some (Cond.constantLong (qR 8) q.1 (Int64.ofInt q.2.1)))) = true := by decide +kernel
theorem qu_0 : ∀ w ∈ u_ws RX0 TX0 2, w ∈ lw_tbl := by
  intro w hw
  have h : u_ws RX0 TX0 2 = [95, 97].filterMap (fun i => lw_tbl[i]?) := by decide +kernel
  rw [h] at hw
  obtain ⟨i, -, hi⟩ := List.mem_filterMap.mp hw
  exact List.mem_of_getElem? hi
theorem qu_1 : ∀ w ∈ u_ws RX1 TX1 2, w ∈ lw_tbl := by
  intro w hw
  have h : u_ws RX1 TX1 2 = [183, 185].filterMap (fun i => lw_tbl[i]?) := by decide +kernel
  rw [h] at hw
  obtain ⟨i, -, hi⟩ := List.mem_filterMap.mp hw
  exact List.mem_of_getElem? hi
theorem qu_2 : ∀ w ∈ u_ws RX2 TX2 2, w ∈ lw_tbl := by
  intro w hw
  have h : u_ws RX2 TX2 2 = [80, 82].filterMap (fun i => lw_tbl[i]?) := by decide +kernel
  rw [h] at hw
  obtain ⟨i, -, hi⟩ := List.mem_filterMap.mp hw
  exact List.mem_of_getElem? hi
theorem qu_3 : ∀ w ∈ u_ws RX3 TX3 7, w ∈ lw_tbl := by
  intro w hw
  have h : u_ws RX3 TX3 7 = [112, 114, 116, 118, 120, 122, 124].filterMap (fun i => lw_tbl[i]?) := by decide +kernel
  rw [h] at hw
  obtain ⟨i, -, hi⟩ := List.mem_filterMap.mp hw
  exact List.mem_of_getElem? hi
theorem qu_4 : ∀ w ∈ u_ws RX4 TX4 2, w ∈ lw_tbl := by
  intro w hw
  have h : u_ws RX4 TX4 2 = [58, 60].filterMap (fun i => lw_tbl[i]?) := by decide +kernel
  rw [h] at hw
  obtain ⟨i, -, hi⟩ := List.mem_filterMap.mp hw
  exact List.mem_of_getElem? hi
theorem qu_5 : ∀ w ∈ u_ws RX5 TX5 2, w ∈ lw_tbl := by
  intro w hw
  have h : u_ws RX5 TX5 2 = [138, 140].filterMap (fun i => lw_tbl[i]?) := by decide +kernel
  rw [h] at hw
  obtain ⟨i, -, hi⟩ := List.mem_filterMap.mp hw
  exact List.mem_of_getElem? hi
theorem qu_6 : ∀ w ∈ u_ws RX6 TX6 5, w ∈ lw_tbl := by
  intro w hw
  have h : u_ws RX6 TX6 5 = [161, 163, 165, 167, 169].filterMap (fun i => lw_tbl[i]?) := by decide +kernel
  rw [h] at hw
  obtain ⟨i, -, hi⟩ := List.mem_filterMap.mp hw
  exact List.mem_of_getElem? hi
theorem qu_7 : ∀ w ∈ u_ws RX7 TX7 8, w ∈ lw_tbl := by
  intro w hw
  have h : u_ws RX7 TX7 8 = [196, 198, 200, 202, 204, 206, 208, 210].filterMap (fun i => lw_tbl[i]?) := by decide +kernel
  rw [h] at hw
  obtain ⟨i, -, hi⟩ := List.mem_filterMap.mp hw
  exact List.mem_of_getElem? hi
def qcp (c : Nat) : Nat × Nat := cond (Nat.ble c 3) (cond (Nat.ble c 1) (cond (Nat.ble c 0) (cond (Nat.beq c 0) ((86, 35)) ((0, 0))) (cond (Nat.beq c 1) ((173, 38)) ((0, 0)))) (cond (Nat.ble c 2) (cond (Nat.beq c 2) ((71, 34)) ((0, 0))) (cond (Nat.beq c 3) ((65, 33)) ((0, 0))))) (cond (Nat.ble c 5) (cond (Nat.ble c 4) (cond (Nat.beq c 4) ((48, 31)) ((0, 0))) (cond (Nat.beq c 5) ((128, 36)) ((0, 0)))) (cond (Nat.ble c 6) (cond (Nat.beq c 6) ((146, 37)) ((0, 0))) (cond (Nat.ble c 7) (cond (Nat.beq c 7) ((40, 30)) ((0, 0))) (cond (Nat.beq c 8) ((0, 29)) ((0, 0))))))
theorem qcp_ok : (List.range 9).all (fun c => decide ((c < 8 → lw_tbl[(qcp c).1]? = some (Cond.instantiable (qR c) (qfs c).length)) ∧ lw_tbl[(qcp c).2]? = some (Cond.initialized (qR c)))) = true := by decide +kernel
def qmp (m : Nat) : Nat × Nat × Nat := cond (Nat.ble m 56) (cond (Nat.ble m 27) (cond (Nat.ble m 13) (cond (Nat.ble m 6) (cond (Nat.ble m 2) (cond (Nat.ble m 0) (cond (Nat.beq m 0) ((89, 88, 88)) ((0, 0, 0))) (cond (Nat.ble m 1) (cond (Nat.beq m 1) ((232, 230, 231)) ((0, 0, 0))) (cond (Nat.beq m 2) ((262, 260, 261)) ((0, 0, 0))))) (cond (Nat.ble m 4) (cond (Nat.ble m 3) (cond (Nat.beq m 3) ((381, 379, 380)) ((0, 0, 0))) (cond (Nat.beq m 4) ((337, 335, 336)) ((0, 0, 0)))) (cond (Nat.ble m 5) (cond (Nat.beq m 5) ((439, 437, 438)) ((0, 0, 0))) (cond (Nat.beq m 6) ((443, 441, 442)) ((0, 0, 0)))))) (cond (Nat.ble m 9) (cond (Nat.ble m 7) (cond (Nat.beq m 7) ((341, 339, 340)) ((0, 0, 0))) (cond (Nat.ble m 8) (cond (Nat.beq m 8) ((502, 500, 501)) ((0, 0, 0))) (cond (Nat.beq m 9) ((485, 483, 484)) ((0, 0, 0))))) (cond (Nat.ble m 11) (cond (Nat.ble m 10) (cond (Nat.beq m 10) ((289, 287, 288)) ((0, 0, 0))) (cond (Nat.beq m 11) ((526, 524, 525)) ((0, 0, 0)))) (cond (Nat.ble m 12) (cond (Nat.beq m 12) ((333, 331, 332)) ((0, 0, 0))) (cond (Nat.beq m 13) ((628, 626, 627)) ((0, 0, 0))))))) (cond (Nat.ble m 20) (cond (Nat.ble m 16) (cond (Nat.ble m 14) (cond (Nat.beq m 14) ((176, 175, 175)) ((0, 0, 0))) (cond (Nat.ble m 15) (cond (Nat.beq m 15) ((397, 395, 396)) ((0, 0, 0))) (cond (Nat.beq m 16) ((354, 352, 353)) ((0, 0, 0))))) (cond (Nat.ble m 18) (cond (Nat.ble m 17) (cond (Nat.beq m 17) ((358, 357, 9)) ((0, 0, 0))) (cond (Nat.beq m 18) ((401, 399, 400)) ((0, 0, 0)))) (cond (Nat.ble m 19) (cond (Nat.beq m 19) ((74, 73, 73)) ((0, 0, 0))) (cond (Nat.beq m 20) ((350, 348, 349)) ((0, 0, 0)))))) (cond (Nat.ble m 23) (cond (Nat.ble m 21) (cond (Nat.beq m 21) ((224, 222, 223)) ((0, 0, 0))) (cond (Nat.ble m 22) (cond (Nat.beq m 22) ((498, 496, 497)) ((0, 0, 0))) (cond (Nat.beq m 23) ((274, 272, 273)) ((0, 0, 0))))) (cond (Nat.ble m 25) (cond (Nat.ble m 24) (cond (Nat.beq m 24) ((283, 281, 282)) ((0, 0, 0))) (cond (Nat.beq m 25) ((591, 589, 590)) ((0, 0, 0)))) (cond (Nat.ble m 26) (cond (Nat.beq m 26) ((68, 67, 67)) ((0, 0, 0))) (cond (Nat.beq m 27) ((220, 218, 219)) ((0, 0, 0)))))))) (cond (Nat.ble m 41) (cond (Nat.ble m 34) (cond (Nat.ble m 30) (cond (Nat.ble m 28) (cond (Nat.beq m 28) ((321, 319, 320)) ((0, 0, 0))) (cond (Nat.ble m 29) (cond (Nat.beq m 29) ((250, 248, 249)) ((0, 0, 0))) (cond (Nat.beq m 30) ((298, 297, 297)) ((0, 0, 0))))) (cond (Nat.ble m 32) (cond (Nat.ble m 31) (cond (Nat.beq m 31) ((254, 253, 1)) ((0, 0, 0))) (cond (Nat.beq m 32) ((258, 257, 2)) ((0, 0, 0)))) (cond (Nat.ble m 33) (cond (Nat.beq m 33) ((270, 269, 3)) ((0, 0, 0))) (cond (Nat.beq m 34) ((279, 278, 4)) ((0, 0, 0)))))) (cond (Nat.ble m 37) (cond (Nat.ble m 35) (cond (Nat.beq m 35) ((295, 294, 5)) ((0, 0, 0))) (cond (Nat.ble m 36) (cond (Nat.beq m 36) ((302, 301, 6)) ((0, 0, 0))) (cond (Nat.beq m 37) ((308, 307, 7)) ((0, 0, 0))))) (cond (Nat.ble m 39) (cond (Nat.ble m 38) (cond (Nat.beq m 38) ((317, 316, 8)) ((0, 0, 0))) (cond (Nat.beq m 39) ((51, 50, 50)) ((0, 0, 0)))) (cond (Nat.ble m 40) (cond (Nat.beq m 40) ((242, 240, 241)) ((0, 0, 0))) (cond (Nat.beq m 41) ((246, 244, 245)) ((0, 0, 0))))))) (cond (Nat.ble m 48) (cond (Nat.ble m 44) (cond (Nat.ble m 42) (cond (Nat.beq m 42) ((313, 311, 312)) ((0, 0, 0))) (cond (Nat.ble m 43) (cond (Nat.beq m 43) ((266, 264, 265)) ((0, 0, 0))) (cond (Nat.beq m 44) ((228, 226, 227)) ((0, 0, 0))))) (cond (Nat.ble m 46) (cond (Nat.ble m 45) (cond (Nat.beq m 45) ((366, 364, 365)) ((0, 0, 0))) (cond (Nat.beq m 46) ((131, 130, 130)) ((0, 0, 0)))) (cond (Nat.ble m 47) (cond (Nat.beq m 47) ((329, 327, 328)) ((0, 0, 0))) (cond (Nat.beq m 48) ((325, 323, 324)) ((0, 0, 0)))))) (cond (Nat.ble m 52) (cond (Nat.ble m 50) (cond (Nat.ble m 49) (cond (Nat.beq m 49) ((377, 375, 376)) ((0, 0, 0))) (cond (Nat.beq m 50) ((149, 148, 148)) ((0, 0, 0)))) (cond (Nat.ble m 51) (cond (Nat.beq m 51) ((362, 360, 361)) ((0, 0, 0))) (cond (Nat.beq m 52) ((387, 385, 386)) ((0, 0, 0))))) (cond (Nat.ble m 54) (cond (Nat.ble m 53) (cond (Nat.beq m 53) ((476, 474, 475)) ((0, 0, 0))) (cond (Nat.beq m 54) ((569, 567, 568)) ((0, 0, 0)))) (cond (Nat.ble m 55) (cond (Nat.beq m 55) ((413, 411, 412)) ((0, 0, 0))) (cond (Nat.beq m 56) ((345, 343, 344)) ((0, 0, 0))))))))) (cond (Nat.ble m 85) (cond (Nat.ble m 70) (cond (Nat.ble m 63) (cond (Nat.ble m 59) (cond (Nat.ble m 57) (cond (Nat.beq m 57) ((409, 407, 408)) ((0, 0, 0))) (cond (Nat.ble m 58) (cond (Nat.beq m 58) ((425, 423, 424)) ((0, 0, 0))) (cond (Nat.beq m 59) ((616, 614, 615)) ((0, 0, 0))))) (cond (Nat.ble m 61) (cond (Nat.ble m 60) (cond (Nat.beq m 60) ((506, 504, 505)) ((0, 0, 0))) (cond (Nat.beq m 61) ((578, 576, 577)) ((0, 0, 0)))) (cond (Nat.ble m 62) (cond (Nat.beq m 62) ((43, 42, 42)) ((0, 0, 0))) (cond (Nat.beq m 63) ((561, 559, 560)) ((0, 0, 0)))))) (cond (Nat.ble m 66) (cond (Nat.ble m 64) (cond (Nat.beq m 64) ((654, 652, 653)) ((0, 0, 0))) (cond (Nat.ble m 65) (cond (Nat.beq m 65) ((216, 214, 215)) ((0, 0, 0))) (cond (Nat.beq m 66) ((565, 563, 564)) ((0, 0, 0))))) (cond (Nat.ble m 68) (cond (Nat.ble m 67) (cond (Nat.beq m 67) ((574, 572, 573)) ((0, 0, 0))) (cond (Nat.beq m 68) ((582, 580, 581)) ((0, 0, 0)))) (cond (Nat.ble m 69) (cond (Nat.beq m 69) ((600, 598, 599)) ((0, 0, 0))) (cond (Nat.beq m 70) ((393, 391, 392)) ((0, 0, 0))))))) (cond (Nat.ble m 77) (cond (Nat.ble m 73) (cond (Nat.ble m 71) (cond (Nat.beq m 71) ((405, 403, 404)) ((0, 0, 0))) (cond (Nat.ble m 72) (cond (Nat.beq m 72) ((467, 465, 466)) ((0, 0, 0))) (cond (Nat.beq m 73) ((608, 606, 607)) ((0, 0, 0))))) (cond (Nat.ble m 75) (cond (Nat.ble m 74) (cond (Nat.beq m 74) ((518, 516, 517)) ((0, 0, 0))) (cond (Nat.beq m 75) ((531, 529, 530)) ((0, 0, 0)))) (cond (Nat.ble m 76) (cond (Nat.beq m 76) ((548, 546, 547)) ((0, 0, 0))) (cond (Nat.beq m 77) ((612, 610, 611)) ((0, 0, 0)))))) (cond (Nat.ble m 81) (cond (Nat.ble m 79) (cond (Nat.ble m 78) (cond (Nat.beq m 78) ((556, 554, 555)) ((0, 0, 0))) (cond (Nat.beq m 79) ((620, 618, 619)) ((0, 0, 0)))) (cond (Nat.ble m 80) (cond (Nat.beq m 80) ((447, 445, 446)) ((0, 0, 0))) (cond (Nat.beq m 81) ((624, 622, 623)) ((0, 0, 0))))) (cond (Nat.ble m 83) (cond (Nat.ble m 82) (cond (Nat.beq m 82) ((522, 521, 21)) ((0, 0, 0))) (cond (Nat.beq m 83) ((552, 551, 25)) ((0, 0, 0)))) (cond (Nat.ble m 84) (cond (Nat.beq m 84) ((604, 603, 28)) ((0, 0, 0))) (cond (Nat.beq m 85) ((421, 420, 12)) ((0, 0, 0)))))))) (cond (Nat.ble m 99) (cond (Nat.ble m 92) (cond (Nat.ble m 88) (cond (Nat.ble m 86) (cond (Nat.beq m 86) ((472, 471, 15)) ((0, 0, 0))) (cond (Nat.ble m 87) (cond (Nat.beq m 87) ((238, 237, 0)) ((0, 0, 0))) (cond (Nat.beq m 88) ((373, 372, 10)) ((0, 0, 0))))) (cond (Nat.ble m 90) (cond (Nat.ble m 89) (cond (Nat.beq m 89) ((586, 585, 26)) ((0, 0, 0))) (cond (Nat.beq m 90) ((596, 595, 27)) ((0, 0, 0)))) (cond (Nat.ble m 91) (cond (Nat.beq m 91) ((417, 416, 11)) ((0, 0, 0))) (cond (Nat.beq m 92) ((429, 428, 13)) ((0, 0, 0)))))) (cond (Nat.ble m 95) (cond (Nat.ble m 93) (cond (Nat.beq m 93) ((433, 432, 14)) ((0, 0, 0))) (cond (Nat.ble m 94) (cond (Nat.beq m 94) ((544, 543, 24)) ((0, 0, 0))) (cond (Nat.beq m 95) ((535, 534, 22)) ((0, 0, 0))))) (cond (Nat.ble m 97) (cond (Nat.ble m 96) (cond (Nat.beq m 96) ((540, 539, 23)) ((0, 0, 0))) (cond (Nat.beq m 97) ((514, 513, 20)) ((0, 0, 0)))) (cond (Nat.ble m 98) (cond (Nat.beq m 98) ((480, 479, 16)) ((0, 0, 0))) (cond (Nat.beq m 99) ((490, 489, 17)) ((0, 0, 0))))))) (cond (Nat.ble m 106) (cond (Nat.ble m 102) (cond (Nat.ble m 100) (cond (Nat.beq m 100) ((494, 493, 18)) ((0, 0, 0))) (cond (Nat.ble m 101) (cond (Nat.beq m 101) ((510, 509, 19)) ((0, 0, 0))) (cond (Nat.beq m 102) ((454, 453, 453)) ((0, 0, 0))))) (cond (Nat.ble m 104) (cond (Nat.ble m 103) (cond (Nat.beq m 103) ((461, 460, 460)) ((0, 0, 0))) (cond (Nat.beq m 104) ((458, 457, 457)) ((0, 0, 0)))) (cond (Nat.ble m 105) (cond (Nat.beq m 105) ((660, 659, 659)) ((0, 0, 0))) (cond (Nat.beq m 106) ((663, 662, 662)) ((0, 0, 0)))))) (cond (Nat.ble m 110) (cond (Nat.ble m 108) (cond (Nat.ble m 107) (cond (Nat.beq m 107) ((635, 634, 634)) ((0, 0, 0))) (cond (Nat.beq m 108) ((644, 643, 643)) ((0, 0, 0)))) (cond (Nat.ble m 109) (cond (Nat.beq m 109) ((647, 646, 646)) ((0, 0, 0))) (cond (Nat.beq m 110) ((641, 640, 640)) ((0, 0, 0))))) (cond (Nat.ble m 112) (cond (Nat.ble m 111) (cond (Nat.beq m 111) ((638, 637, 637)) ((0, 0, 0))) (cond (Nat.beq m 112) ((632, 631, 631)) ((0, 0, 0)))) (cond (Nat.ble m 113) (cond (Nat.beq m 113) ((650, 649, 649)) ((0, 0, 0))) (cond (Nat.beq m 114) ((657, 656, 656)) ((0, 0, 0)))))))))
def qrt_ok (m : Nat) : Bool := match qRt m, qret m with
  | 0, none => true
  | 1, some .int => true
  | 2, some .boolean => true
  | 3, some (.object _) => true
  | 4, some .long => true
  | _, _ => false
theorem qmp_ok2 : (List.range 115).all (fun m => match qKi m with
  | 0 => decide (lw_tbl[(qmp m).2.1]? = some (Cond.static (qy m)) ∧ (parseMethodDescriptor (qy m).desc).map (fun d => d.parameters.length) = some (qNa m))
  | 1 => decide (lw_tbl[(qmp m).2.1]? = some (Cond.instanceMethod (qy m)) ∧ lw_tbl[(qmp m).2.2]? = some (Cond.selects (qR (qCl m)) (qy m) (qy m)) ∧ (parseMethodDescriptor (qy m).desc).map (fun d => d.parameters.length + 1) = some (qNa m))
  | 2 => decide (lw_tbl[(qmp m).2.1]? = some (Cond.instanceMethod (qy m)) ∧ (qy m).name = "<init>" ∧ qret m = none ∧ (parseMethodDescriptor (qy m).desc).map (fun d => d.parameters.length + 1) = some (qNa m))
  | _ => false) = true := by decide +kernel
theorem qmp_ok3 : (List.range 115).all (fun m => decide ((qy m).cls = qR (qCl m) ∧ qCl m < 9 ∧ (qKi m = 0 ∨ qCl m < 8) ∧ plainName (qy m).cls = true ∧ (qy m).cls ≠ "java/lang/invoke/MethodHandle" ∧ (qy m).cls ≠ "java/lang/invoke/VarHandle" ∧ qrt_ok m = true)) = true := by decide +kernel

set_option maxRecDepth 20000 in
theorem qcw_0 : lw_tbl[89]? = some (Cond.code (qy 0) (qb 0) (qNl 0) (qret 0)) := rfl
set_option maxRecDepth 20000 in
theorem qcw_1 : lw_tbl[232]? = some (Cond.code (qy 1) (qb 1) (qNl 1) (qret 1)) := rfl
set_option maxRecDepth 20000 in
theorem qcw_2 : lw_tbl[262]? = some (Cond.code (qy 2) (qb 2) (qNl 2) (qret 2)) := rfl
set_option maxRecDepth 20000 in
theorem qcw_3 : lw_tbl[381]? = some (Cond.code (qy 3) (qb 3) (qNl 3) (qret 3)) := rfl
set_option maxRecDepth 20000 in
theorem qcw_4 : lw_tbl[337]? = some (Cond.code (qy 4) (qb 4) (qNl 4) (qret 4)) := rfl
set_option maxRecDepth 20000 in
theorem qcw_5 : lw_tbl[439]? = some (Cond.code (qy 5) (qb 5) (qNl 5) (qret 5)) := rfl
set_option maxRecDepth 20000 in
theorem qcw_6 : lw_tbl[443]? = some (Cond.code (qy 6) (qb 6) (qNl 6) (qret 6)) := rfl
set_option maxRecDepth 20000 in
theorem qcw_7 : lw_tbl[341]? = some (Cond.code (qy 7) (qb 7) (qNl 7) (qret 7)) := rfl
set_option maxRecDepth 20000 in
theorem qcw_8 : lw_tbl[502]? = some (Cond.code (qy 8) (qb 8) (qNl 8) (qret 8)) := rfl
set_option maxRecDepth 20000 in
theorem qcw_9 : lw_tbl[485]? = some (Cond.code (qy 9) (qb 9) (qNl 9) (qret 9)) := rfl
set_option maxRecDepth 20000 in
theorem qcw_10 : lw_tbl[289]? = some (Cond.code (qy 10) (qb 10) (qNl 10) (qret 10)) := rfl
set_option maxRecDepth 20000 in
theorem qcw_11 : lw_tbl[526]? = some (Cond.code (qy 11) (qb 11) (qNl 11) (qret 11)) := rfl
set_option maxRecDepth 20000 in
theorem qcw_12 : lw_tbl[333]? = some (Cond.code (qy 12) (qb 12) (qNl 12) (qret 12)) := rfl
set_option maxRecDepth 20000 in
theorem qcw_13 : lw_tbl[628]? = some (Cond.code (qy 13) (qb 13) (qNl 13) (qret 13)) := rfl
set_option maxRecDepth 20000 in
theorem qcw_14 : lw_tbl[176]? = some (Cond.code (qy 14) (qb 14) (qNl 14) (qret 14)) := rfl
set_option maxRecDepth 20000 in
theorem qcw_15 : lw_tbl[397]? = some (Cond.code (qy 15) (qb 15) (qNl 15) (qret 15)) := rfl
set_option maxRecDepth 20000 in
theorem qcw_16 : lw_tbl[354]? = some (Cond.code (qy 16) (qb 16) (qNl 16) (qret 16)) := rfl
set_option maxRecDepth 20000 in
theorem qcw_17 : lw_tbl[358]? = some (Cond.code (qy 17) (qb 17) (qNl 17) (qret 17)) := rfl
set_option maxRecDepth 20000 in
theorem qcw_18 : lw_tbl[401]? = some (Cond.code (qy 18) (qb 18) (qNl 18) (qret 18)) := rfl
set_option maxRecDepth 20000 in
theorem qcw_19 : lw_tbl[74]? = some (Cond.code (qy 19) (qb 19) (qNl 19) (qret 19)) := rfl
set_option maxRecDepth 20000 in
theorem qcw_20 : lw_tbl[350]? = some (Cond.code (qy 20) (qb 20) (qNl 20) (qret 20)) := rfl
set_option maxRecDepth 20000 in
theorem qcw_21 : lw_tbl[224]? = some (Cond.code (qy 21) (qb 21) (qNl 21) (qret 21)) := rfl
set_option maxRecDepth 20000 in
theorem qcw_22 : lw_tbl[498]? = some (Cond.code (qy 22) (qb 22) (qNl 22) (qret 22)) := rfl
set_option maxRecDepth 20000 in
theorem qcw_23 : lw_tbl[274]? = some (Cond.code (qy 23) (qb 23) (qNl 23) (qret 23)) := rfl
set_option maxRecDepth 20000 in
theorem qcw_24 : lw_tbl[283]? = some (Cond.code (qy 24) (qb 24) (qNl 24) (qret 24)) := rfl
set_option maxRecDepth 20000 in
theorem qcw_25 : lw_tbl[591]? = some (Cond.code (qy 25) (qb 25) (qNl 25) (qret 25)) := rfl
set_option maxRecDepth 20000 in
theorem qcw_26 : lw_tbl[68]? = some (Cond.code (qy 26) (qb 26) (qNl 26) (qret 26)) := rfl
set_option maxRecDepth 20000 in
theorem qcw_27 : lw_tbl[220]? = some (Cond.code (qy 27) (qb 27) (qNl 27) (qret 27)) := rfl
set_option maxRecDepth 20000 in
theorem qcw_28 : lw_tbl[321]? = some (Cond.code (qy 28) (qb 28) (qNl 28) (qret 28)) := rfl
set_option maxRecDepth 20000 in
theorem qcw_29 : lw_tbl[250]? = some (Cond.code (qy 29) (qb 29) (qNl 29) (qret 29)) := rfl
set_option maxRecDepth 20000 in
theorem qcw_30 : lw_tbl[298]? = some (Cond.code (qy 30) (qb 30) (qNl 30) (qret 30)) := rfl
set_option maxRecDepth 20000 in
theorem qcw_31 : lw_tbl[254]? = some (Cond.code (qy 31) (qb 31) (qNl 31) (qret 31)) := rfl
set_option maxRecDepth 20000 in
theorem qcw_32 : lw_tbl[258]? = some (Cond.code (qy 32) (qb 32) (qNl 32) (qret 32)) := rfl
set_option maxRecDepth 20000 in
theorem qcw_33 : lw_tbl[270]? = some (Cond.code (qy 33) (qb 33) (qNl 33) (qret 33)) := rfl
set_option maxRecDepth 20000 in
theorem qcw_34 : lw_tbl[279]? = some (Cond.code (qy 34) (qb 34) (qNl 34) (qret 34)) := rfl
set_option maxRecDepth 20000 in
theorem qcw_35 : lw_tbl[295]? = some (Cond.code (qy 35) (qb 35) (qNl 35) (qret 35)) := rfl
set_option maxRecDepth 20000 in
theorem qcw_36 : lw_tbl[302]? = some (Cond.code (qy 36) (qb 36) (qNl 36) (qret 36)) := rfl
set_option maxRecDepth 20000 in
theorem qcw_37 : lw_tbl[308]? = some (Cond.code (qy 37) (qb 37) (qNl 37) (qret 37)) := rfl
set_option maxRecDepth 20000 in
theorem qcw_38 : lw_tbl[317]? = some (Cond.code (qy 38) (qb 38) (qNl 38) (qret 38)) := rfl
set_option maxRecDepth 20000 in
theorem qcw_39 : lw_tbl[51]? = some (Cond.code (qy 39) (qb 39) (qNl 39) (qret 39)) := rfl
set_option maxRecDepth 20000 in
theorem qcw_40 : lw_tbl[242]? = some (Cond.code (qy 40) (qb 40) (qNl 40) (qret 40)) := rfl
set_option maxRecDepth 20000 in
theorem qcw_41 : lw_tbl[246]? = some (Cond.code (qy 41) (qb 41) (qNl 41) (qret 41)) := rfl
set_option maxRecDepth 20000 in
theorem qcw_42 : lw_tbl[313]? = some (Cond.code (qy 42) (qb 42) (qNl 42) (qret 42)) := rfl
set_option maxRecDepth 20000 in
theorem qcw_43 : lw_tbl[266]? = some (Cond.code (qy 43) (qb 43) (qNl 43) (qret 43)) := rfl
set_option maxRecDepth 20000 in
theorem qcw_44 : lw_tbl[228]? = some (Cond.code (qy 44) (qb 44) (qNl 44) (qret 44)) := rfl
set_option maxRecDepth 20000 in
theorem qcw_45 : lw_tbl[366]? = some (Cond.code (qy 45) (qb 45) (qNl 45) (qret 45)) := rfl
set_option maxRecDepth 20000 in
theorem qcw_46 : lw_tbl[131]? = some (Cond.code (qy 46) (qb 46) (qNl 46) (qret 46)) := rfl
set_option maxRecDepth 20000 in
theorem qcw_47 : lw_tbl[329]? = some (Cond.code (qy 47) (qb 47) (qNl 47) (qret 47)) := rfl
set_option maxRecDepth 20000 in
theorem qcw_48 : lw_tbl[325]? = some (Cond.code (qy 48) (qb 48) (qNl 48) (qret 48)) := rfl
set_option maxRecDepth 20000 in
theorem qcw_49 : lw_tbl[377]? = some (Cond.code (qy 49) (qb 49) (qNl 49) (qret 49)) := rfl
set_option maxRecDepth 20000 in
theorem qcw_50 : lw_tbl[149]? = some (Cond.code (qy 50) (qb 50) (qNl 50) (qret 50)) := rfl
set_option maxRecDepth 20000 in
theorem qcw_51 : lw_tbl[362]? = some (Cond.code (qy 51) (qb 51) (qNl 51) (qret 51)) := rfl
set_option maxRecDepth 20000 in
theorem qcw_52 : lw_tbl[387]? = some (Cond.code (qy 52) (qb 52) (qNl 52) (qret 52)) := rfl
set_option maxRecDepth 20000 in
theorem qcw_53 : lw_tbl[476]? = some (Cond.code (qy 53) (qb 53) (qNl 53) (qret 53)) := rfl
set_option maxRecDepth 20000 in
theorem qcw_54 : lw_tbl[569]? = some (Cond.code (qy 54) (qb 54) (qNl 54) (qret 54)) := rfl
set_option maxRecDepth 20000 in
theorem qcw_55 : lw_tbl[413]? = some (Cond.code (qy 55) (qb 55) (qNl 55) (qret 55)) := rfl
set_option maxRecDepth 20000 in
theorem qcw_56 : lw_tbl[345]? = some (Cond.code (qy 56) (qb 56) (qNl 56) (qret 56)) := rfl
set_option maxRecDepth 20000 in
theorem qcw_57 : lw_tbl[409]? = some (Cond.code (qy 57) (qb 57) (qNl 57) (qret 57)) := rfl
set_option maxRecDepth 20000 in
theorem qcw_58 : lw_tbl[425]? = some (Cond.code (qy 58) (qb 58) (qNl 58) (qret 58)) := rfl
set_option maxRecDepth 20000 in
theorem qcw_59 : lw_tbl[616]? = some (Cond.code (qy 59) (qb 59) (qNl 59) (qret 59)) := rfl
set_option maxRecDepth 20000 in
theorem qcw_60 : lw_tbl[506]? = some (Cond.code (qy 60) (qb 60) (qNl 60) (qret 60)) := rfl
set_option maxRecDepth 20000 in
theorem qcw_61 : lw_tbl[578]? = some (Cond.code (qy 61) (qb 61) (qNl 61) (qret 61)) := rfl
set_option maxRecDepth 20000 in
theorem qcw_62 : lw_tbl[43]? = some (Cond.code (qy 62) (qb 62) (qNl 62) (qret 62)) := rfl
set_option maxRecDepth 20000 in
theorem qcw_63 : lw_tbl[561]? = some (Cond.code (qy 63) (qb 63) (qNl 63) (qret 63)) := rfl
set_option maxRecDepth 20000 in
theorem qcw_64 : lw_tbl[654]? = some (Cond.code (qy 64) (qb 64) (qNl 64) (qret 64)) := rfl
set_option maxRecDepth 20000 in
theorem qcw_65 : lw_tbl[216]? = some (Cond.code (qy 65) (qb 65) (qNl 65) (qret 65)) := rfl
set_option maxRecDepth 20000 in
theorem qcw_66 : lw_tbl[565]? = some (Cond.code (qy 66) (qb 66) (qNl 66) (qret 66)) := rfl
set_option maxRecDepth 20000 in
theorem qcw_67 : lw_tbl[574]? = some (Cond.code (qy 67) (qb 67) (qNl 67) (qret 67)) := rfl
set_option maxRecDepth 20000 in
theorem qcw_68 : lw_tbl[582]? = some (Cond.code (qy 68) (qb 68) (qNl 68) (qret 68)) := rfl
set_option maxRecDepth 20000 in
theorem qcw_69 : lw_tbl[600]? = some (Cond.code (qy 69) (qb 69) (qNl 69) (qret 69)) := rfl
set_option maxRecDepth 20000 in
theorem qcw_70 : lw_tbl[393]? = some (Cond.code (qy 70) (qb 70) (qNl 70) (qret 70)) := rfl
set_option maxRecDepth 20000 in
theorem qcw_71 : lw_tbl[405]? = some (Cond.code (qy 71) (qb 71) (qNl 71) (qret 71)) := rfl
set_option maxRecDepth 20000 in
theorem qcw_72 : lw_tbl[467]? = some (Cond.code (qy 72) (qb 72) (qNl 72) (qret 72)) := rfl
set_option maxRecDepth 20000 in
theorem qcw_73 : lw_tbl[608]? = some (Cond.code (qy 73) (qb 73) (qNl 73) (qret 73)) := rfl
set_option maxRecDepth 20000 in
theorem qcw_74 : lw_tbl[518]? = some (Cond.code (qy 74) (qb 74) (qNl 74) (qret 74)) := rfl
set_option maxRecDepth 20000 in
theorem qcw_75 : lw_tbl[531]? = some (Cond.code (qy 75) (qb 75) (qNl 75) (qret 75)) := rfl
set_option maxRecDepth 20000 in
theorem qcw_76 : lw_tbl[548]? = some (Cond.code (qy 76) (qb 76) (qNl 76) (qret 76)) := rfl
set_option maxRecDepth 20000 in
theorem qcw_77 : lw_tbl[612]? = some (Cond.code (qy 77) (qb 77) (qNl 77) (qret 77)) := rfl
set_option maxRecDepth 20000 in
theorem qcw_78 : lw_tbl[556]? = some (Cond.code (qy 78) (qb 78) (qNl 78) (qret 78)) := rfl
set_option maxRecDepth 20000 in
theorem qcw_79 : lw_tbl[620]? = some (Cond.code (qy 79) (qb 79) (qNl 79) (qret 79)) := rfl
set_option maxRecDepth 20000 in
theorem qcw_80 : lw_tbl[447]? = some (Cond.code (qy 80) (qb 80) (qNl 80) (qret 80)) := rfl
set_option maxRecDepth 20000 in
theorem qcw_81 : lw_tbl[624]? = some (Cond.code (qy 81) (qb 81) (qNl 81) (qret 81)) := rfl
set_option maxRecDepth 20000 in
theorem qcw_82 : lw_tbl[522]? = some (Cond.code (qy 82) (qb 82) (qNl 82) (qret 82)) := rfl
set_option maxRecDepth 20000 in
theorem qcw_83 : lw_tbl[552]? = some (Cond.code (qy 83) (qb 83) (qNl 83) (qret 83)) := rfl
set_option maxRecDepth 20000 in
theorem qcw_84 : lw_tbl[604]? = some (Cond.code (qy 84) (qb 84) (qNl 84) (qret 84)) := rfl
set_option maxRecDepth 20000 in
theorem qcw_85 : lw_tbl[421]? = some (Cond.code (qy 85) (qb 85) (qNl 85) (qret 85)) := rfl
set_option maxRecDepth 20000 in
theorem qcw_86 : lw_tbl[472]? = some (Cond.code (qy 86) (qb 86) (qNl 86) (qret 86)) := rfl
set_option maxRecDepth 20000 in
theorem qcw_87 : lw_tbl[238]? = some (Cond.code (qy 87) (qb 87) (qNl 87) (qret 87)) := rfl
set_option maxRecDepth 20000 in
theorem qcw_88 : lw_tbl[373]? = some (Cond.code (qy 88) (qb 88) (qNl 88) (qret 88)) := rfl
set_option maxRecDepth 20000 in
theorem qcw_89 : lw_tbl[586]? = some (Cond.code (qy 89) (qb 89) (qNl 89) (qret 89)) := rfl
set_option maxRecDepth 20000 in
theorem qcw_90 : lw_tbl[596]? = some (Cond.code (qy 90) (qb 90) (qNl 90) (qret 90)) := rfl
set_option maxRecDepth 20000 in
theorem qcw_91 : lw_tbl[417]? = some (Cond.code (qy 91) (qb 91) (qNl 91) (qret 91)) := rfl
set_option maxRecDepth 20000 in
theorem qcw_92 : lw_tbl[429]? = some (Cond.code (qy 92) (qb 92) (qNl 92) (qret 92)) := rfl
set_option maxRecDepth 20000 in
theorem qcw_93 : lw_tbl[433]? = some (Cond.code (qy 93) (qb 93) (qNl 93) (qret 93)) := rfl
set_option maxRecDepth 20000 in
theorem qcw_94 : lw_tbl[544]? = some (Cond.code (qy 94) (qb 94) (qNl 94) (qret 94)) := rfl
set_option maxRecDepth 20000 in
theorem qcw_95 : lw_tbl[535]? = some (Cond.code (qy 95) (qb 95) (qNl 95) (qret 95)) := rfl
set_option maxRecDepth 20000 in
theorem qcw_96 : lw_tbl[540]? = some (Cond.code (qy 96) (qb 96) (qNl 96) (qret 96)) := rfl
set_option maxRecDepth 20000 in
theorem qcw_97 : lw_tbl[514]? = some (Cond.code (qy 97) (qb 97) (qNl 97) (qret 97)) := rfl
set_option maxRecDepth 20000 in
theorem qcw_98 : lw_tbl[480]? = some (Cond.code (qy 98) (qb 98) (qNl 98) (qret 98)) := rfl
set_option maxRecDepth 20000 in
theorem qcw_99 : lw_tbl[490]? = some (Cond.code (qy 99) (qb 99) (qNl 99) (qret 99)) := rfl
set_option maxRecDepth 20000 in
theorem qcw_100 : lw_tbl[494]? = some (Cond.code (qy 100) (qb 100) (qNl 100) (qret 100)) := rfl
set_option maxRecDepth 20000 in
theorem qcw_101 : lw_tbl[510]? = some (Cond.code (qy 101) (qb 101) (qNl 101) (qret 101)) := rfl
set_option maxRecDepth 20000 in
theorem qcw_102 : lw_tbl[454]? = some (Cond.code (qy 102) (qb 102) (qNl 102) (qret 102)) := rfl
set_option maxRecDepth 20000 in
theorem qcw_103 : lw_tbl[461]? = some (Cond.code (qy 103) (qb 103) (qNl 103) (qret 103)) := rfl
set_option maxRecDepth 20000 in
theorem qcw_104 : lw_tbl[458]? = some (Cond.code (qy 104) (qb 104) (qNl 104) (qret 104)) := rfl
set_option maxRecDepth 20000 in
theorem qcw_105 : lw_tbl[660]? = some (Cond.code (qy 105) (qb 105) (qNl 105) (qret 105)) := rfl
set_option maxRecDepth 20000 in
theorem qcw_106 : lw_tbl[663]? = some (Cond.code (qy 106) (qb 106) (qNl 106) (qret 106)) := rfl
set_option maxRecDepth 20000 in
theorem qcw_107 : lw_tbl[635]? = some (Cond.code (qy 107) (qb 107) (qNl 107) (qret 107)) := rfl
set_option maxRecDepth 20000 in
theorem qcw_108 : lw_tbl[644]? = some (Cond.code (qy 108) (qb 108) (qNl 108) (qret 108)) := rfl
set_option maxRecDepth 20000 in
theorem qcw_109 : lw_tbl[647]? = some (Cond.code (qy 109) (qb 109) (qNl 109) (qret 109)) := rfl
set_option maxRecDepth 20000 in
theorem qcw_110 : lw_tbl[641]? = some (Cond.code (qy 110) (qb 110) (qNl 110) (qret 110)) := rfl
set_option maxRecDepth 20000 in
theorem qcw_111 : lw_tbl[638]? = some (Cond.code (qy 111) (qb 111) (qNl 111) (qret 111)) := rfl
set_option maxRecDepth 20000 in
theorem qcw_112 : lw_tbl[632]? = some (Cond.code (qy 112) (qb 112) (qNl 112) (qret 112)) := rfl
set_option maxRecDepth 20000 in
theorem qcw_113 : lw_tbl[650]? = some (Cond.code (qy 113) (qb 113) (qNl 113) (qret 113)) := rfl
set_option maxRecDepth 20000 in
theorem qcw_114 : lw_tbl[657]? = some (Cond.code (qy 114) (qb 114) (qNl 114) (qret 114)) := rfl
def qcwP (m : Nat) : Prop := Cond.code (qy m) (qb m) (qNl m) (qret m) ∈ lw_tbl
theorem qcwA_0 : ∀ m, m < 20 → qcwP m := lt_s (lt_s (lt_s (lt_s (lt_s (lt_s (lt_s (lt_s (lt_s (lt_s (lt_s (lt_s (lt_s (lt_s (lt_s (lt_s (lt_s (lt_s (lt_s (lt_s (lt_0) (List.mem_of_getElem? qcw_0)) (List.mem_of_getElem? qcw_1)) (List.mem_of_getElem? qcw_2)) (List.mem_of_getElem? qcw_3)) (List.mem_of_getElem? qcw_4)) (List.mem_of_getElem? qcw_5)) (List.mem_of_getElem? qcw_6)) (List.mem_of_getElem? qcw_7)) (List.mem_of_getElem? qcw_8)) (List.mem_of_getElem? qcw_9)) (List.mem_of_getElem? qcw_10)) (List.mem_of_getElem? qcw_11)) (List.mem_of_getElem? qcw_12)) (List.mem_of_getElem? qcw_13)) (List.mem_of_getElem? qcw_14)) (List.mem_of_getElem? qcw_15)) (List.mem_of_getElem? qcw_16)) (List.mem_of_getElem? qcw_17)) (List.mem_of_getElem? qcw_18)) (List.mem_of_getElem? qcw_19)
theorem qcwA_20 : ∀ m, m < 40 → qcwP m := lt_s (lt_s (lt_s (lt_s (lt_s (lt_s (lt_s (lt_s (lt_s (lt_s (lt_s (lt_s (lt_s (lt_s (lt_s (lt_s (lt_s (lt_s (lt_s (lt_s (qcwA_0) (List.mem_of_getElem? qcw_20)) (List.mem_of_getElem? qcw_21)) (List.mem_of_getElem? qcw_22)) (List.mem_of_getElem? qcw_23)) (List.mem_of_getElem? qcw_24)) (List.mem_of_getElem? qcw_25)) (List.mem_of_getElem? qcw_26)) (List.mem_of_getElem? qcw_27)) (List.mem_of_getElem? qcw_28)) (List.mem_of_getElem? qcw_29)) (List.mem_of_getElem? qcw_30)) (List.mem_of_getElem? qcw_31)) (List.mem_of_getElem? qcw_32)) (List.mem_of_getElem? qcw_33)) (List.mem_of_getElem? qcw_34)) (List.mem_of_getElem? qcw_35)) (List.mem_of_getElem? qcw_36)) (List.mem_of_getElem? qcw_37)) (List.mem_of_getElem? qcw_38)) (List.mem_of_getElem? qcw_39)
theorem qcwA_40 : ∀ m, m < 60 → qcwP m := lt_s (lt_s (lt_s (lt_s (lt_s (lt_s (lt_s (lt_s (lt_s (lt_s (lt_s (lt_s (lt_s (lt_s (lt_s (lt_s (lt_s (lt_s (lt_s (lt_s (qcwA_20) (List.mem_of_getElem? qcw_40)) (List.mem_of_getElem? qcw_41)) (List.mem_of_getElem? qcw_42)) (List.mem_of_getElem? qcw_43)) (List.mem_of_getElem? qcw_44)) (List.mem_of_getElem? qcw_45)) (List.mem_of_getElem? qcw_46)) (List.mem_of_getElem? qcw_47)) (List.mem_of_getElem? qcw_48)) (List.mem_of_getElem? qcw_49)) (List.mem_of_getElem? qcw_50)) (List.mem_of_getElem? qcw_51)) (List.mem_of_getElem? qcw_52)) (List.mem_of_getElem? qcw_53)) (List.mem_of_getElem? qcw_54)) (List.mem_of_getElem? qcw_55)) (List.mem_of_getElem? qcw_56)) (List.mem_of_getElem? qcw_57)) (List.mem_of_getElem? qcw_58)) (List.mem_of_getElem? qcw_59)
theorem qcwA_60 : ∀ m, m < 80 → qcwP m := lt_s (lt_s (lt_s (lt_s (lt_s (lt_s (lt_s (lt_s (lt_s (lt_s (lt_s (lt_s (lt_s (lt_s (lt_s (lt_s (lt_s (lt_s (lt_s (lt_s (qcwA_40) (List.mem_of_getElem? qcw_60)) (List.mem_of_getElem? qcw_61)) (List.mem_of_getElem? qcw_62)) (List.mem_of_getElem? qcw_63)) (List.mem_of_getElem? qcw_64)) (List.mem_of_getElem? qcw_65)) (List.mem_of_getElem? qcw_66)) (List.mem_of_getElem? qcw_67)) (List.mem_of_getElem? qcw_68)) (List.mem_of_getElem? qcw_69)) (List.mem_of_getElem? qcw_70)) (List.mem_of_getElem? qcw_71)) (List.mem_of_getElem? qcw_72)) (List.mem_of_getElem? qcw_73)) (List.mem_of_getElem? qcw_74)) (List.mem_of_getElem? qcw_75)) (List.mem_of_getElem? qcw_76)) (List.mem_of_getElem? qcw_77)) (List.mem_of_getElem? qcw_78)) (List.mem_of_getElem? qcw_79)
theorem qcwA_80 : ∀ m, m < 100 → qcwP m := lt_s (lt_s (lt_s (lt_s (lt_s (lt_s (lt_s (lt_s (lt_s (lt_s (lt_s (lt_s (lt_s (lt_s (lt_s (lt_s (lt_s (lt_s (lt_s (lt_s (qcwA_60) (List.mem_of_getElem? qcw_80)) (List.mem_of_getElem? qcw_81)) (List.mem_of_getElem? qcw_82)) (List.mem_of_getElem? qcw_83)) (List.mem_of_getElem? qcw_84)) (List.mem_of_getElem? qcw_85)) (List.mem_of_getElem? qcw_86)) (List.mem_of_getElem? qcw_87)) (List.mem_of_getElem? qcw_88)) (List.mem_of_getElem? qcw_89)) (List.mem_of_getElem? qcw_90)) (List.mem_of_getElem? qcw_91)) (List.mem_of_getElem? qcw_92)) (List.mem_of_getElem? qcw_93)) (List.mem_of_getElem? qcw_94)) (List.mem_of_getElem? qcw_95)) (List.mem_of_getElem? qcw_96)) (List.mem_of_getElem? qcw_97)) (List.mem_of_getElem? qcw_98)) (List.mem_of_getElem? qcw_99)
theorem qcwA_100 : ∀ m, m < 115 → qcwP m := lt_s (lt_s (lt_s (lt_s (lt_s (lt_s (lt_s (lt_s (lt_s (lt_s (lt_s (lt_s (lt_s (lt_s (lt_s (qcwA_80) (List.mem_of_getElem? qcw_100)) (List.mem_of_getElem? qcw_101)) (List.mem_of_getElem? qcw_102)) (List.mem_of_getElem? qcw_103)) (List.mem_of_getElem? qcw_104)) (List.mem_of_getElem? qcw_105)) (List.mem_of_getElem? qcw_106)) (List.mem_of_getElem? qcw_107)) (List.mem_of_getElem? qcw_108)) (List.mem_of_getElem? qcw_109)) (List.mem_of_getElem? qcw_110)) (List.mem_of_getElem? qcw_111)) (List.mem_of_getElem? qcw_112)) (List.mem_of_getElem? qcw_113)) (List.mem_of_getElem? qcw_114)
def qN : Nat := 115
theorem qcw_all : ∀ m, m < qN → qcwP m := qcwA_100
/-- the words that are kept over calls -/
def qtb : List Cond := lw_tbl.filter goodWord
theorem qtb_in {w : Cond} (h : w ∈ lw_tbl) (g : goodWord w = true) : w ∈ qtb := List.mem_filter.mpr ⟨h, g⟩
theorem qtb_at {w : Cond} {i : Nat} (h : lw_tbl[i]? = some w) (g : goodWord w = true) : w ∈ qtb := qtb_in (List.mem_of_getElem? h) g
theorem qtb_good {w : Cond} (h : w ∈ qtb) : (w.onTables && w.keeps) = true ∨ ∃ ty, w = .arrayClass ty := good_of_word (List.mem_filter.mp h).2
/-- an instruction of a method against the bytes and the words -/
def qcc (a : Int) : ClassFile.Cond := if a = 0 then .eq else if a = 1 then .ne else if a = 2 then .lt else if a = 3 then .ge else if a = 4 then .gt else .le
def qdec (m pc : Nat) (i : ClassFile.Instr) (n : Nat) : Bool := decide (decode (qb m) pc = .ok (i, n))
/-- no long stands ahead of this place -/
def qnb (m b : Nat) : Bool := (qlj m).all (fun j => !(j + 1 == b))
def qok (m pc : Nat) (x : qX) : Bool :=
  let a := x.2.1
  let b := x.2.2.1
  let c := x.2.2.2.1
  let nx := x.2.2.2.2
  match x.1 with
  | 0 => (qdec m pc (.iconst a) 1 && decide (nx = pc + 1)) || (qdec m pc (.bipush a) 2 && decide (nx = pc + 2 ∧ (Int8.ofInt a).toInt32 = Int32.ofInt a)) || (qdec m pc (.sipush a) 3 && decide (nx = pc + 3 ∧ (Int16.ofInt a).toInt32 = Int32.ofInt a)) || (qdec m pc (.ldc b) 2 && decide (nx = pc + 2 ∧ qCl m = 8) && qld.any (fun q => q.1 == b && q.2.1 == a))
  | 1 => (decide (b < 4 ∧ nx = pc + 1) && qdec m pc (.iload_n (Fin.ofNat 4 b)) 1) || (qdec m pc (.iload b) 2 && decide (nx = pc + 2))
  | 2 => (decide (b < 4 ∧ nx = pc + 1) && qdec m pc (.aload_n (Fin.ofNat 4 b)) 1) || (qdec m pc (.aload b) 2 && decide (nx = pc + 2))
  | 3 => ((decide (b < 4 ∧ nx = pc + 1) && qdec m pc (.istore_n (Fin.ofNat 4 b)) 1) || (qdec m pc (.istore b) 2 && decide (nx = pc + 2))) && qnb m b
  | 4 => ((decide (b < 4 ∧ nx = pc + 1) && qdec m pc (.astore_n (Fin.ofNat 4 b)) 1) || (qdec m pc (.astore b) 2 && decide (nx = pc + 2))) && qnb m b
  | 5 => qdec m pc (.iinc b a) 3 && decide (nx = pc + 3) && qnb m b
  | 6 => qdec m pc .iadd 1 && decide (nx = pc + 1)
  | 7 => qdec m pc .isub 1 && decide (nx = pc + 1)
  | 8 => qdec m pc .imul 1 && decide (nx = pc + 1)
  | 9 => qdec m pc .idiv 1 && decide (nx = pc + 1)
  | 10 => qdec m pc .irem 1 && decide (nx = pc + 1)
  | 11 => (if a = 0 then qdec m pc .iand 1 else if a = 1 then qdec m pc .ior 1 else if a = 2 then qdec m pc .ishl 1 else if a = 3 then qdec m pc .ishr 1 else if a = 4 then qdec m pc .iadd 1 else qdec m pc .imul 1) && decide (nx = pc + 1)
  | 12 => qdec m pc .dup 1 && decide (nx = pc + 1)
  | 13 => qdec m pc .dup2 1 && decide (nx = pc + 1)
  | 14 => qdec m pc .pop 1 && decide (nx = pc + 1)
  | 15 => qdec m pc (.goto ((b : Int) - pc)) 3
  | 16 => qdec m pc (.if_icmp (qcc a) ((b : Int) - pc)) 3 && decide (nx = pc + 3)
  | 17 => qdec m pc (.ifCond (qcc a) ((b : Int) - pc)) 3 && decide (nx = pc + 3)
  | 18 => qdec m pc (.ifnull ((b : Int) - pc)) 3 && decide (nx = pc + 3)
  | 19 => qdec m pc (.ifnonnull ((b : Int) - pc)) 3 && decide (nx = pc + 3)
  | 20 => qdec m pc (.tableswitch ((b : Int) - pc) a (a + c.length - 1) (c.map (fun (t : Nat) => (t : Int) - pc)).toArray) (nx - pc)
  | 21 => qdec m pc (.getfield b) 3 && decide (nx = pc + 3) && qfl.any (fun q => q.1 == qCl m && q.2.1 == b && q.2.2.1 == c.headD 0 && q.2.2.2.1 == a.toNat)
  | 22 => qdec m pc (.getfield b) 3 && decide (nx = pc + 3) && qfl.any (fun q => q.1 == qCl m && q.2.1 == b && q.2.2.1 == c.headD 0 && q.2.2.2.1 == a.toNat)
  | 23 => qdec m pc (.putfield b) 3 && decide (nx = pc + 3) && qfl.any (fun q => q.1 == qCl m && q.2.1 == b && q.2.2.1 == c.headD 0 && q.2.2.2.1 == a.toNat) && decide ((qT (c.headD 0) a.toNat).2.2.2 = false)
  | 24 => qdec m pc (.putfield b) 3 && decide (nx = pc + 3) && qfl.any (fun q => q.1 == qCl m && q.2.1 == b && q.2.2.1 == c.headD 0 && q.2.2.2.1 == a.toNat) && decide ((qT (c.headD 0) a.toNat).2.2.2 = true ∧ (qy m).name = "<init>" ∧ (qT (c.headD 0) a.toNat).1 = qR (qCl m))
  | 25 => qdec m pc .iaload 1 && decide (nx = pc + 1)
  | 26 => qdec m pc .iastore 1 && decide (nx = pc + 1)
  | 27 => qdec m pc .aaload 1 && decide (nx = pc + 1)
  | 28 => qdec m pc .aastore 1 && decide (nx = pc + 1)
  | 29 => qdec m pc .arraylength 1 && decide (nx = pc + 1)
  | 30 => qdec m pc (.newarray .int) 2 && decide (nx = pc + 2)
  | 31 => qdec m pc (.anewarray b) 3 && decide (nx = pc + 3 ∧ c.headD 0 < 8) && qcl.any (fun q => q.1 == qCl m && q.2.1 == b && q.2.2.1 == c.headD 0) && qao.any (fun q => q.1 == c.headD 0)
  | 32 => qdec m pc (.new b) 3 && decide (nx = pc + 3 ∧ c.headD 0 < 8) && qcl.any (fun q => q.1 == qCl m && q.2.1 == b && q.2.2.1 == c.headD 0)
  | 33 => qdec m pc (.invokestatic b) 3 && decide (nx = pc + 3 ∧ 1 ≤ (qfr m).1 ∧ 21 ≤ (qfr m).2) && qmx.any (fun q => q.1 == qCl m && q.2.1 == b)
  | 34 => qdec m pc (.invokespecial b) 3 && decide (nx = pc + 3 ∧ 1 ≤ (qfr m).1 ∧ 20 ≤ (qfr m).2) && qoi.any (fun q => q.1 == qCl m && q.2.1 == b)
  | 35 => (if a = 0 then qdec m pc .i2l 1 else qdec m pc .lcmp 1) && decide (nx = pc + 1)
  | 36 => (decide (b < 4 ∧ nx = pc + 1) && qdec m pc (.lload_n (Fin.ofNat 4 b)) 1) || (qdec m pc (.lload b) 2 && decide (nx = pc + 2))
  | 37 => ((decide (b < 4 ∧ nx = pc + 1) && qdec m pc (.lstore_n (Fin.ofNat 4 b)) 1) || (qdec m pc (.lstore b) 2 && decide (nx = pc + 2))) && (qnb m b && (qlj m).contains b)
  | 38 => (if a = 0 then qdec m pc .ladd 1 else qdec m pc .lmul 1) && decide (nx = pc + 1)
  | 39 => qdec m pc (.ldc2_w b) 3 && decide (nx = pc + 3 ∧ qCl m = 8) && qll.any (fun q => q.1 == b && q.2.1 == a)
  | 40 => decide (nx = pc + 3 ∧ b < qN ∧ 0 ≤ a ∧ (qfr b).1 + 1 ≤ (qfr m).1 ∧ 19 + qNl b + (qfr b).2 ≤ (qfr m).2) && qml.any (fun q => q.1 == qCl m && q.2.1 == a.toNat && q.2.2.1 == b) && (match qKi b with
    | 0 => qdec m pc (.invokestatic a.toNat) 3
    | 1 => qdec m pc (.invokevirtual a.toNat) 3
    | 2 => qdec m pc (.invokespecial a.toNat) 3
    | _ => false)
  | 41 => qdec m pc .ireturn 1 && decide (qRt m = 1)
  | 42 => qdec m pc .ireturn 1 && decide (qRt m = 2)
  | 43 => qdec m pc .areturn 1 && decide (qRt m = 3)
  | 44 => qdec m pc .return_ 1 && decide (qRt m = 0)
  | 45 => qdec m pc .lreturn 1 && decide (qRt m = 4)
  | _ => false
def qokP (m : Nat) : Prop := ∀ (pc : Nat) (x : qX), qcd m pc = some x → qok m pc x = true
