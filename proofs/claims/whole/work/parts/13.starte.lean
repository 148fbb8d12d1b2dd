/-! THE LAW, start, piece 4 -/
def lw_fg (ad : Nat → Nat) (σ : wk_St) (k : Nat) : Nat → List Nat → List Value
  | _, [] => []
  | j, f :: r => wk_tr ad (wk_rd σ k j f) :: lw_fg ad σ k (j + 1) r
theorem lw_fs {ad : Nat → Nat} {σ : wk_St} {k : Nat} : ∀ (l : List Nat) (j : Nat), l.mapIdx (fun i f => wk_tr ad (wk_rd σ k (i + j) f)) = lw_fg ad σ k j l
  | [], _ => by simp [lw_fg]
  | a :: l, j => by
    rw [List.mapIdx_cons]
    unfold lw_fg
    congr 1
    · rw [Nat.zero_add]
    · rw [← lw_fs l (j + 1)]
      congr 1
      funext i f
      rw [show i + 1 + j = i + (j + 1) by omega]
theorem lw_ceE {sh : Nat → Option wk_De} {ad : Nat → Nat} {cA : Nat → ClassId} {σ : wk_St} {k ci : Nat} {fl : List Nat} (h : sh k = some (.inr (ci, fl))) : wk_ce sh ad cA σ k = .inr (ci, lw_fg ad σ k 0 fl) := by
  unfold wk_ce
  rw [h]
  show (Sum.inr (ci, wk_fs ad σ k fl) : va_E) = _
  rw [← lw_fs fl 0]
  rfl
