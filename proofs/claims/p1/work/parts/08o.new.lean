/-! A new exception, thrown -/
/-- the words of a throw but those that speak of the heap -/
def so_hw (w : Cond) : Bool := decide (w = .isRef (.static Bundle.tN "UNASSIGNED_STACK" Bundle.steD)) || (decide (w = .isRef (.static Bundle.tN "SUPPRESSED_SENTINEL" Bundle.listD)) || (decide (w = .laysStatic Bundle.tN "UNASSIGNED_STACK" Bundle.steD) || decide (w = .laysStatic Bundle.tN "SUPPRESSED_SENTINEL" Bundle.listD)))
def so_nm : List String := ["java/lang/RuntimeException", "java/lang/Exception"]
def so_in2 (w : Cond) : Bool := so_hw w || (decide (w ∈ lw_tbl) && (goodWord w || (w.onTables && (w.castAtom || w.faceAtom))))
def so_thw (q : Nat × Nat × Nat × Nat × Nat × Nat) : Bool := decide (q.1 ≠ 1) || ((Bundle.ownAtoms0 (sR 1) q.2.2.1 (so_en q.2.2.2.1) so_nm).all so_in2 && (so_in1 (.initialized (so_en q.2.2.2.1)) && (Bundle.fit (so_en q.2.2.2.1) && decide (0 < q.2.2.2.1 ∧ q.2.2.2.1 < 5))))
set_option maxRecDepth 100000 in
theorem so_f40 : ∀ q ∈ so_es, so_thw q = true := by decide +kernel
theorem so_f41 : ∀ n ∈ so_nm, Bundle.fit n = true := by decide +kernel
