/-! fields, makings, copies -/
theorem xcls_in : ∀ q ∈ xcls, ∀ w ∈ u_ws q.1 q.2.1 q.2.2, w ∈ lw_tbl := by decide +kernel
theorem xcls_good : ∀ q ∈ xcls, ∀ w ∈ u_ws q.1 q.2.1 q.2.2, goodWord w = true := by decide +kernel
theorem xcls_nm : ∀ q ∈ xcls, ∀ a, a < q.2.2 → ∀ b, b < q.2.2 → a ≠ b → (q.2.1 a).2.1 ≠ (q.2.1 b).2.1 := by decide +kernel
theorem xcls_ty : ∀ t, t < 12 → ∀ k, k < xnf t → ((xcls[t]?).bind (fun q => parseFieldDescriptor (q.2.1 k).2.2.1)) = some (xtyf t k) := by decide +kernel
theorem xcls_own : ∀ q ∈ xcls, ∀ k, k < q.2.2 → (q.2.1 k).1 = q.1 := by decide +kernel
theorem xcls_nf : ∀ t, t < 12 → (xcls[t]?).map (fun q => q.2.2) = some (xnf t) := by decide +kernel
/-- a field's kind and its type -/
def xftb (t k : Nat) : Bool := match xft t k with
  | 0 => decide (xtyf t k = .int)
  | 1 => decide (xtyf t k = .boolean)
  | 2 => (match xtyf t k with
    | .object _ => true
    | .array _ => true
    | _ => false)
  | 3 => decide (xtyf t k = .long)
  | _ => false
theorem xft_ok : ∀ t, t < 12 → ∀ k, k < xnf t → xftb t k = true := by decide +kernel
