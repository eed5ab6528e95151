def zNF (ci : Nat) : Nat := (zCl.getD ci (RX0, TX0, 0)).2.2
def zTX (ci : Nat) : u_T := (zCl.getD ci (RX0, TX0, 0)).2.1
def zGW : List Cond := lw_tbl.filter goodWord
def zhas (n : Nat) (w : Cond) : Bool := decide (lw_tbl[n]? = some w) && goodWord w
theorem zmem {n : Nat} {w : Cond} (h : zhas n w = true) : w ∈ zGW := by
  simp only [zhas, Bool.and_eq_true, decide_eq_true_eq] at h
  exact List.mem_filter.mpr ⟨List.mem_of_getElem? h.1, h.2⟩
def zhq1 (n : Nat) (w : Cond) : Bool := decide (tables_1_1[n]? = some w) && goodWord w
theorem zmi1 {w : Cond} (h : w ∈ tables_1_1) : w ∈ tables_1 := List.mem_append.mpr (Or.inl h)
theorem zmq1 {n : Nat} {w : Cond} (h : zhq1 n w = true) : w ∈ zGW := by
  simp only [zhq1, Bool.and_eq_true, decide_eq_true_eq] at h
  exact List.mem_filter.mpr ⟨List.mem_append.mpr (Or.inr (zmi1 (List.mem_of_getElem? h.1))), h.2⟩
def zhq2 (n : Nat) (w : Cond) : Bool := decide (tables_1_2[n]? = some w) && goodWord w
theorem zmi2 {w : Cond} (h : w ∈ tables_1_2) : w ∈ tables_1 := List.mem_append.mpr (Or.inr (List.mem_append.mpr (Or.inl h)))
theorem zmq2 {n : Nat} {w : Cond} (h : zhq2 n w = true) : w ∈ zGW := by
  simp only [zhq2, Bool.and_eq_true, decide_eq_true_eq] at h
  exact List.mem_filter.mpr ⟨List.mem_append.mpr (Or.inr (zmi2 (List.mem_of_getElem? h.1))), h.2⟩
def zhq3 (n : Nat) (w : Cond) : Bool := decide (tables_1_3[n]? = some w) && goodWord w
theorem zmi3 {w : Cond} (h : w ∈ tables_1_3) : w ∈ tables_1 := List.mem_append.mpr (Or.inr (List.mem_append.mpr (Or.inr (List.mem_append.mpr (Or.inl h)))))
theorem zmq3 {n : Nat} {w : Cond} (h : zhq3 n w = true) : w ∈ zGW := by
  simp only [zhq3, Bool.and_eq_true, decide_eq_true_eq] at h
  exact List.mem_filter.mpr ⟨List.mem_append.mpr (Or.inr (zmi3 (List.mem_of_getElem? h.1))), h.2⟩
def zhq4 (n : Nat) (w : Cond) : Bool := decide (tables_1_4[n]? = some w) && goodWord w
theorem zmi4 {w : Cond} (h : w ∈ tables_1_4) : w ∈ tables_1 := List.mem_append.mpr (Or.inr (List.mem_append.mpr (Or.inr (List.mem_append.mpr (Or.inr (List.mem_append.mpr (Or.inl h)))))))
theorem zmq4 {n : Nat} {w : Cond} (h : zhq4 n w = true) : w ∈ zGW := by
  simp only [zhq4, Bool.and_eq_true, decide_eq_true_eq] at h
  exact List.mem_filter.mpr ⟨List.mem_append.mpr (Or.inr (zmi4 (List.mem_of_getElem? h.1))), h.2⟩
def zhq5 (n : Nat) (w : Cond) : Bool := decide (tables_1_5[n]? = some w) && goodWord w
theorem zmi5 {w : Cond} (h : w ∈ tables_1_5) : w ∈ tables_1 := List.mem_append.mpr (Or.inr (List.mem_append.mpr (Or.inr (List.mem_append.mpr (Or.inr (List.mem_append.mpr (Or.inr (List.mem_append.mpr (Or.inl h)))))))))
theorem zmq5 {n : Nat} {w : Cond} (h : zhq5 n w = true) : w ∈ zGW := by
  simp only [zhq5, Bool.and_eq_true, decide_eq_true_eq] at h
  exact List.mem_filter.mpr ⟨List.mem_append.mpr (Or.inr (zmi5 (List.mem_of_getElem? h.1))), h.2⟩
def zhq6 (n : Nat) (w : Cond) : Bool := decide (tables_1_6[n]? = some w) && goodWord w
theorem zmi6 {w : Cond} (h : w ∈ tables_1_6) : w ∈ tables_1 := List.mem_append.mpr (Or.inr (List.mem_append.mpr (Or.inr (List.mem_append.mpr (Or.inr (List.mem_append.mpr (Or.inr (List.mem_append.mpr (Or.inr (List.mem_append.mpr (Or.inl h)))))))))))
theorem zmq6 {n : Nat} {w : Cond} (h : zhq6 n w = true) : w ∈ zGW := by
  simp only [zhq6, Bool.and_eq_true, decide_eq_true_eq] at h
  exact List.mem_filter.mpr ⟨List.mem_append.mpr (Or.inr (zmi6 (List.mem_of_getElem? h.1))), h.2⟩
def zhq7 (n : Nat) (w : Cond) : Bool := decide (tables_1_7[n]? = some w) && goodWord w
theorem zmi7 {w : Cond} (h : w ∈ tables_1_7) : w ∈ tables_1 := List.mem_append.mpr (Or.inr (List.mem_append.mpr (Or.inr (List.mem_append.mpr (Or.inr (List.mem_append.mpr (Or.inr (List.mem_append.mpr (Or.inr (List.mem_append.mpr (Or.inr (List.mem_append.mpr (Or.inl h)))))))))))))
theorem zmq7 {n : Nat} {w : Cond} (h : zhq7 n w = true) : w ∈ zGW := by
  simp only [zhq7, Bool.and_eq_true, decide_eq_true_eq] at h
  exact List.mem_filter.mpr ⟨List.mem_append.mpr (Or.inr (zmi7 (List.mem_of_getElem? h.1))), h.2⟩
def zhq8 (n : Nat) (w : Cond) : Bool := decide (tables_1_8[n]? = some w) && goodWord w
theorem zmi8 {w : Cond} (h : w ∈ tables_1_8) : w ∈ tables_1 := List.mem_append.mpr (Or.inr (List.mem_append.mpr (Or.inr (List.mem_append.mpr (Or.inr (List.mem_append.mpr (Or.inr (List.mem_append.mpr (Or.inr (List.mem_append.mpr (Or.inr (List.mem_append.mpr (Or.inr (h))))))))))))))
theorem zmq8 {n : Nat} {w : Cond} (h : zhq8 n w = true) : w ∈ zGW := by
  simp only [zhq8, Bool.and_eq_true, decide_eq_true_eq] at h
  exact List.mem_filter.mpr ⟨List.mem_append.mpr (Or.inr (zmi8 (List.mem_of_getElem? h.1))), h.2⟩
theorem zmr1 {n : Nat} {w : Cond} (h : tables_1_1[n]? = some w) (g : goodWord w = true) : w ∈ zGW := List.mem_filter.mpr ⟨List.mem_append.mpr (Or.inr (zmi1 (List.mem_of_getElem? h))), g⟩
theorem zmr2 {n : Nat} {w : Cond} (h : tables_1_2[n]? = some w) (g : goodWord w = true) : w ∈ zGW := List.mem_filter.mpr ⟨List.mem_append.mpr (Or.inr (zmi2 (List.mem_of_getElem? h))), g⟩
theorem zmr3 {n : Nat} {w : Cond} (h : tables_1_3[n]? = some w) (g : goodWord w = true) : w ∈ zGW := List.mem_filter.mpr ⟨List.mem_append.mpr (Or.inr (zmi3 (List.mem_of_getElem? h))), g⟩
theorem zmr4 {n : Nat} {w : Cond} (h : tables_1_4[n]? = some w) (g : goodWord w = true) : w ∈ zGW := List.mem_filter.mpr ⟨List.mem_append.mpr (Or.inr (zmi4 (List.mem_of_getElem? h))), g⟩
theorem zmr5 {n : Nat} {w : Cond} (h : tables_1_5[n]? = some w) (g : goodWord w = true) : w ∈ zGW := List.mem_filter.mpr ⟨List.mem_append.mpr (Or.inr (zmi5 (List.mem_of_getElem? h))), g⟩
theorem zmr6 {n : Nat} {w : Cond} (h : tables_1_6[n]? = some w) (g : goodWord w = true) : w ∈ zGW := List.mem_filter.mpr ⟨List.mem_append.mpr (Or.inr (zmi6 (List.mem_of_getElem? h))), g⟩
theorem zmr7 {n : Nat} {w : Cond} (h : tables_1_7[n]? = some w) (g : goodWord w = true) : w ∈ zGW := List.mem_filter.mpr ⟨List.mem_append.mpr (Or.inr (zmi7 (List.mem_of_getElem? h))), g⟩
theorem zmr8 {n : Nat} {w : Cond} (h : tables_1_8[n]? = some w) (g : goodWord w = true) : w ∈ zGW := List.mem_filter.mpr ⟨List.mem_append.mpr (Or.inr (zmi8 (List.mem_of_getElem? h))), g⟩
