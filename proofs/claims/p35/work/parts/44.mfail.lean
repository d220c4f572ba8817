/-! 44: the reference: failures -/
variable {en : Int32}
/-! the chain -/
def CH (S : Mem) (l : List Msg) : Prop := S 697 9 = Int32.ofNat l.length ∧ ∀ i m, l[i]? = some m → S 702 (2 * i) = m.1 ∧ S 702 (2 * i + 1) = m.2
/-! the causes told -/
