/-! ===== the constants at the start ===== -/
def dNm : List String := ["INSERT", "MOVE", "DROP", "CHANGE", "DELIVER", "LOSE", "TWICE", "SYNC", "TELL", "SWEEP", "ALL"]
def dSt : List Nat := [69, 75, 78, 81, 84, 87, 90, 93, 96, 99, 102]
def tD (i : Nat) : Term := .static "MovingList$Deed" (dNm.getD i "") "LMovingList$Deed;"
def tS (i : Nat) : Term := .string "MovingList$Deed" (dSt.getD i 0)
def tR : Term := .static "MovingList" "DEEDS" "[LMovingList$Deed;"
def tW : Term := .static "MovingList$1" "$SwitchMap$MovingList$Deed" "[I"
def nar : List Jvm.Cond := flatC (Jvm.Cond.and given_1 narrow_1)
set_option maxRecDepth 20000 in
theorem n_ex : ∀ i, i < 11 → Cond.exactly (tD i) "MovingList$Deed" ∈ nar := by decide +kernel
set_option maxRecDepth 20000 in
theorem n_el : ∀ i, i < 11 → Cond.eq (.elem tR (.int (Int32.ofNat i))) (tD i) ∈ nar := by decide +kernel
set_option maxRecDepth 20000 in
theorem n_fd : ∀ i, i < 11 → Cond.eq (.field (tD i) "MovingList$Deed" "numbers" "I") (.int (dNum.getD i 0)) ∈ nar ∧ Cond.eq (.field (tD i) "MovingList$Deed" "letter" "Z") (.int (dLet.getD i 0)) ∈ nar ∧ Cond.eq (.field (tD i) "MovingList$Deed" "word" "Ljava/lang/String;") (tS i) ∈ nar ∧ Cond.eq (.field (tD i) "java/lang/Enum" "ordinal" "I") (.int (Int32.ofNat i)) ∈ nar := by decide +kernel
