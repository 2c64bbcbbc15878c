/-! THE OLD WORLD AT THE LAW'S ENTRY -/
abbrev xFl : List Cond := flatC (Jvm.Cond.and given_1 narrow_1)
def xTbP : List Nat := [0, 5, 17, 37, 91]
def xExP : List Nat := [222, 232, 243, 253, 264, 279, 293, 308, 326, 345, 364, 381, 400, 421, 443, 465, 489]
def xNeP : List (List Nat) := [[], [242], [251, 252], [261, 262, 263], [275, 276, 277, 278], [288, 289, 290, 291, 292], [302, 303, 304, 305, 306, 307], [319, 320, 321, 322, 323, 324, 325], [337, 338, 339, 340, 341, 342, 343, 344], [355, 356, 357, 358, 359, 360, 361, 362, 363], [371, 372, 373, 374, 375, 376, 377, 378, 379, 380], [389, 390, 391, 392, 393, 394, 395, 396, 397, 398, 399], [409, 410, 411, 412, 413, 414, 415, 416, 417, 418, 419, 420], [430, 431, 432, 433, 434, 435, 436, 437, 438, 439, 440, 441, 442], [451, 452, 453, 454, 455, 456, 457, 458, 459, 460, 461, 462, 463, 464], [474, 475, 476, 477, 478, 479, 480, 481, 482, 483, 484, 485, 486, 487, 488], [498, 499, 500, 501, 502, 503, 504, 505, 506, 507, 508, 509, 510, 511, 512, 513]]
def xLsP : List Nat := [0, 716, 799, 805, 807]
def xNsP : List Nat := [1012, 982, 842, 1171, 905, 936, 1093, 1054, 1261]
def xAoP : List Nat := [389, 393, 324, 171, 173, 175]
set_option maxRecDepth 100000 in
theorem xe_tab : ∀ j, j < 5 → 1 ≤ j → xFl[xTbP.getD j 0]? = some (Cond.arrayOf (.static "ThreePhases$Reader" (xTabN.getD j "") "[I") .int) ∧ xFl[xTbP.getD j 0 + 1]? = some (Cond.eq (.length (.static "ThreePhases$Reader" (xTabN.getD j "") "[I")) (.int (Int32.ofNat (xTab.getD j []).length))) ∧ ∀ i, i < (xTab.getD j []).length → xFl[xTbP.getD j 0 + 2 + i]? = some (Cond.eq (.elem (.static "ThreePhases$Reader" (xTabN.getD j "") "[I") (.int (Int32.ofNat i))) (.int ((xTab.getD j []).getD i 0))) := by decide +kernel
set_option maxRecDepth 100000 in
theorem xe_ls : ∀ j, j < 5 → 1 ≤ j → lw_tbl[xLsP.getD j 0]? = some (Cond.laysStatic "ThreePhases$Reader" (xTabN.getD j "") "[I") := by decide +kernel
def xTm (i : Nat) : Term := .string "ThreePhases$Reader" (xTx.getD i (0, "")).1
set_option maxRecDepth 100000 in
theorem xe_str : ∀ i, i < 17 → xFl[xExP.getD i 0]? = some (Cond.exactly (xTm i) "java/lang/String") ∧ xFl[xExP.getD i 0 + 1]? = some (Cond.eq (.field (xTm i) "java/lang/String" "coder" "B") (.int 0)) ∧ xFl[xExP.getD i 0 + 2]? = some (Cond.arrayOf (.field (xTm i) "java/lang/String" "value" "[B") .byte) ∧ xFl[xExP.getD i 0 + 3]? = some (Cond.eq (.length (.field (xTm i) "java/lang/String" "value" "[B")) (.int (Int32.ofNat (xTl.getD i 0)))) ∧ ∀ j, j < xTl.getD i 0 → xFl[xExP.getD i 0 + 4 + j]? = some (Cond.eq (.elem (.field (xTm i) "java/lang/String" "value" "[B") (.int (Int32.ofNat j))) (.int ((xTb.getD i []).getD j 0))) := by decide +kernel
set_option maxRecDepth 100000 in
theorem xe_ne : ∀ j, j < 17 → ∀ i, i < j → xFl[(xNeP.getD j []).getD i 0]? = some (Cond.not (Cond.eq (xTm i) (xTm j))) := by decide +kernel
set_option maxRecDepth 100000 in
theorem xe_ref : ∀ i, i < 17 → lw_tbl[720 + i]? = some (Cond.stringRef "ThreePhases$Reader" (xTx.getD i (0, "")).1 (xTx.getD i (0, "")).2) := by decide +kernel
set_option maxRecDepth 100000 in
theorem xe_one : xFl[11]? = some (Cond.eq (.static "java/lang/String" "COMPACT_STRINGS" "Z") (.int 1)) ∧ xFl[12]? = some (Cond.isRef (.static "jdk/internal/util/Preconditions" "SIOOBE_FORMATTER" "Ljava/util/function/BiFunction;")) ∧ lw_tbl[750]? = some (Cond.laysStatic "java/lang/String" "COMPACT_STRINGS" "Z") ∧ lw_tbl[766]? = some (Cond.laysStatic "jdk/internal/util/Preconditions" "SIOOBE_FORMATTER" "Ljava/util/function/BiFunction;") ∧ lw_tbl[140]? = some (Cond.initialized "ThreePhases$Reader") ∧ lw_tbl[151]? = some (Cond.initialized "java/lang/String") ∧ lw_tbl[153]? = some (Cond.initialized "jdk/internal/util/Preconditions") := by decide +kernel
set_option maxRecDepth 100000 in
theorem xe_nest : ∀ k, k < 9 → lw_tbl[xNsP.getD k 0]? = (xNest[k]?).map fun e => Cond.methodLinkNest (xR e.1) e.2.1 e.2.2 "ThreePhases" := by decide +kernel
set_option maxRecDepth 100000 in
theorem xe_ao : ∀ k, k < 6 → lw_tbl[xAoP.getD k 0]? = (xAos[k]?).map fun C => Cond.arrayOver (.object C) := by decide +kernel
set_option maxRecDepth 100000 in
theorem xe_aoa : lw_tbl[182]? = some (Cond.arrayOver (.array .int)) := by decide +kernel
