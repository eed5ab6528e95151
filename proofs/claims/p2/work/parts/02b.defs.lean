def zNF (ci : Nat) : Nat := (zCl.getD ci (RX0, TX0, 0)).2.2
def zTX (ci : Nat) : u_T := (zCl.getD ci (RX0, TX0, 0)).2.1
def zGW : List Cond := lw_tbl.filter goodWord
def zhas (n : Nat) (w : Cond) : Bool := decide (lw_tbl[n]? = some w) && goodWord w
theorem zmem {n : Nat} {w : Cond} (h : zhas n w = true) : w ∈ zGW := by
  simp only [zhas, Bool.and_eq_true, decide_eq_true_eq] at h
  exact List.mem_filter.mpr ⟨List.mem_of_getElem? h.1, h.2⟩
