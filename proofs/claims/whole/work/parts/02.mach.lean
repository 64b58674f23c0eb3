/-! ===== THE ABSTRACT MACHINE: a heap of numbered cells, fields by class and place, and what an instruction does to it ===== -/
def HP : Type := (Nat → Nat → Int32) × (Nat → Nat → UInt32) × (Nat → Nat → Nat) × (Nat → Nat → Int32) × (Nat → Nat → UInt32) × (Nat → Nat → Nat) × (Nat → Nat → Int64) × (Nat → Nat → UInt64) × (Nat → Nat) × (Nat → Nat) × (Nat) × (Nat) × (Nat)
def hI (h : HP) : Nat → Nat → Int32 := h.1
def hF (h : HP) : Nat → Nat → UInt32 := h.2.1
def hR (h : HP) : Nat → Nat → Nat := h.2.2.1
def hAI (h : HP) : Nat → Nat → Int32 := h.2.2.2.1
def hAF (h : HP) : Nat → Nat → UInt32 := h.2.2.2.2.1
def hAR (h : HP) : Nat → Nat → Nat := h.2.2.2.2.2.1
def hAL (h : HP) : Nat → Nat → Int64 := h.2.2.2.2.2.2.1
def hAD (h : HP) : Nat → Nat → UInt64 := h.2.2.2.2.2.2.2.1
def hK (h : HP) : Nat → Nat := h.2.2.2.2.2.2.2.2.1
def hL (h : HP) : Nat → Nat := h.2.2.2.2.2.2.2.2.2.1
def hN (h : HP) : Nat := h.2.2.2.2.2.2.2.2.2.2.1
def hC (h : HP) : Nat := h.2.2.2.2.2.2.2.2.2.2.2.1
def hZ (h : HP) : Nat := h.2.2.2.2.2.2.2.2.2.2.2.2
def u2 {α : Type} (m : Nat → Nat → α) (f a : Nat) (v : α) : Nat → Nat → α := fun f1 a1 => if f1 = f ∧ a1 = a then v else m f1 a1
def mkH (xI : Nat → Nat → Int32) (xF : Nat → Nat → UInt32) (xR : Nat → Nat → Nat) (xAI : Nat → Nat → Int32) (xAF : Nat → Nat → UInt32) (xAR : Nat → Nat → Nat) (xAL : Nat → Nat → Int64) (xAD : Nat → Nat → UInt64) (xK : Nat → Nat) (xL : Nat → Nat) (xN : Nat) (xC : Nat) (xZ : Nat) : HP := (xI, xF, xR, xAI, xAF, xAR, xAL, xAD, xK, xL, xN, xC, xZ)
def sI (h : HP) (f a : Nat) (v : Int32) : HP := mkH (u2 (hI h) f a v) (hF h) (hR h) (hAI h) (hAF h) (hAR h) (hAL h) (hAD h) (hK h) (hL h) (hN h) (hC h) (hZ h)
def sF (h : HP) (f a : Nat) (v : UInt32) : HP := mkH (hI h) (u2 (hF h) f a v) (hR h) (hAI h) (hAF h) (hAR h) (hAL h) (hAD h) (hK h) (hL h) (hN h) (hC h) (hZ h)
def sR (h : HP) (f a : Nat) (v : Nat) : HP := mkH (hI h) (hF h) (u2 (hR h) f a v) (hAI h) (hAF h) (hAR h) (hAL h) (hAD h) (hK h) (hL h) (hN h) (hC h) (hZ h)
def sAI (h : HP) (f a : Nat) (v : Int32) : HP := mkH (hI h) (hF h) (hR h) (u2 (hAI h) f a v) (hAF h) (hAR h) (hAL h) (hAD h) (hK h) (hL h) (hN h) (hC h) (hZ h)
def sAF (h : HP) (f a : Nat) (v : UInt32) : HP := mkH (hI h) (hF h) (hR h) (hAI h) (u2 (hAF h) f a v) (hAR h) (hAL h) (hAD h) (hK h) (hL h) (hN h) (hC h) (hZ h)
def sAR (h : HP) (f a : Nat) (v : Nat) : HP := mkH (hI h) (hF h) (hR h) (hAI h) (hAF h) (u2 (hAR h) f a v) (hAL h) (hAD h) (hK h) (hL h) (hN h) (hC h) (hZ h)
def sAL (h : HP) (f a : Nat) (v : Int64) : HP := mkH (hI h) (hF h) (hR h) (hAI h) (hAF h) (hAR h) (u2 (hAL h) f a v) (hAD h) (hK h) (hL h) (hN h) (hC h) (hZ h)
def sAD (h : HP) (f a : Nat) (v : UInt64) : HP := mkH (hI h) (hF h) (hR h) (hAI h) (hAF h) (hAR h) (hAL h) (u2 (hAD h) f a v) (hK h) (hL h) (hN h) (hC h) (hZ h)
def nw (h : HP) (k len sz : Nat) : HP := mkH (fun f a => if a = hN h then (0 : Int32) else hI h f a) (fun f a => if a = hN h then (0 : UInt32) else hF h f a) (fun f a => if a = hN h then 0 else hR h f a) (fun a i => if a = hN h then (0 : Int32) else hAI h a i) (fun a i => if a = hN h then (0 : UInt32) else hAF h a i) (fun a i => if a = hN h then 0 else hAR h a i) (fun a i => if a = hN h then (0 : Int64) else hAL h a i) (fun a i => if a = hN h then (0 : UInt64) else hAD h a i) (fun a => if a = hN h then k else hK h a) (fun a => if a = hN h then len else hL h a) (hN h + 1) (hC h + 1) (hZ h + sz)
def thr (h : HP) : HP := mkH (hI h) (hF h) (hR h) (hAI h) (hAF h) (hAR h) (hAL h) (hAD h) (hK h) (hL h) (hN h) (hC h + 1) (hZ h + 6)
theorem hI_sI (h : HP) (f a : Nat) (v : Int32) (f1 a1 : Nat) : hI (sI h f a v) f1 a1 = if f1 = f ∧ a1 = a then v else hI h f1 a1 := rfl
theorem hF_sI (h : HP) (f a : Nat) (v : Int32) : hF (sI h f a v) = hF h := rfl
theorem hR_sI (h : HP) (f a : Nat) (v : Int32) : hR (sI h f a v) = hR h := rfl
theorem hAI_sI (h : HP) (f a : Nat) (v : Int32) : hAI (sI h f a v) = hAI h := rfl
theorem hAF_sI (h : HP) (f a : Nat) (v : Int32) : hAF (sI h f a v) = hAF h := rfl
theorem hAR_sI (h : HP) (f a : Nat) (v : Int32) : hAR (sI h f a v) = hAR h := rfl
theorem hAL_sI (h : HP) (f a : Nat) (v : Int32) : hAL (sI h f a v) = hAL h := rfl
theorem hAD_sI (h : HP) (f a : Nat) (v : Int32) : hAD (sI h f a v) = hAD h := rfl
theorem hK_sI (h : HP) (f a : Nat) (v : Int32) : hK (sI h f a v) = hK h := rfl
theorem hL_sI (h : HP) (f a : Nat) (v : Int32) : hL (sI h f a v) = hL h := rfl
theorem hN_sI (h : HP) (f a : Nat) (v : Int32) : hN (sI h f a v) = hN h := rfl
theorem hC_sI (h : HP) (f a : Nat) (v : Int32) : hC (sI h f a v) = hC h := rfl
theorem hZ_sI (h : HP) (f a : Nat) (v : Int32) : hZ (sI h f a v) = hZ h := rfl
theorem hI_sF (h : HP) (f a : Nat) (v : UInt32) : hI (sF h f a v) = hI h := rfl
theorem hF_sF (h : HP) (f a : Nat) (v : UInt32) (f1 a1 : Nat) : hF (sF h f a v) f1 a1 = if f1 = f ∧ a1 = a then v else hF h f1 a1 := rfl
theorem hR_sF (h : HP) (f a : Nat) (v : UInt32) : hR (sF h f a v) = hR h := rfl
theorem hAI_sF (h : HP) (f a : Nat) (v : UInt32) : hAI (sF h f a v) = hAI h := rfl
theorem hAF_sF (h : HP) (f a : Nat) (v : UInt32) : hAF (sF h f a v) = hAF h := rfl
theorem hAR_sF (h : HP) (f a : Nat) (v : UInt32) : hAR (sF h f a v) = hAR h := rfl
theorem hAL_sF (h : HP) (f a : Nat) (v : UInt32) : hAL (sF h f a v) = hAL h := rfl
theorem hAD_sF (h : HP) (f a : Nat) (v : UInt32) : hAD (sF h f a v) = hAD h := rfl
theorem hK_sF (h : HP) (f a : Nat) (v : UInt32) : hK (sF h f a v) = hK h := rfl
theorem hL_sF (h : HP) (f a : Nat) (v : UInt32) : hL (sF h f a v) = hL h := rfl
theorem hN_sF (h : HP) (f a : Nat) (v : UInt32) : hN (sF h f a v) = hN h := rfl
theorem hC_sF (h : HP) (f a : Nat) (v : UInt32) : hC (sF h f a v) = hC h := rfl
theorem hZ_sF (h : HP) (f a : Nat) (v : UInt32) : hZ (sF h f a v) = hZ h := rfl
theorem hI_sR (h : HP) (f a : Nat) (v : Nat) : hI (sR h f a v) = hI h := rfl
theorem hF_sR (h : HP) (f a : Nat) (v : Nat) : hF (sR h f a v) = hF h := rfl
theorem hR_sR (h : HP) (f a : Nat) (v : Nat) (f1 a1 : Nat) : hR (sR h f a v) f1 a1 = if f1 = f ∧ a1 = a then v else hR h f1 a1 := rfl
theorem hAI_sR (h : HP) (f a : Nat) (v : Nat) : hAI (sR h f a v) = hAI h := rfl
theorem hAF_sR (h : HP) (f a : Nat) (v : Nat) : hAF (sR h f a v) = hAF h := rfl
theorem hAR_sR (h : HP) (f a : Nat) (v : Nat) : hAR (sR h f a v) = hAR h := rfl
theorem hAL_sR (h : HP) (f a : Nat) (v : Nat) : hAL (sR h f a v) = hAL h := rfl
theorem hAD_sR (h : HP) (f a : Nat) (v : Nat) : hAD (sR h f a v) = hAD h := rfl
theorem hK_sR (h : HP) (f a : Nat) (v : Nat) : hK (sR h f a v) = hK h := rfl
theorem hL_sR (h : HP) (f a : Nat) (v : Nat) : hL (sR h f a v) = hL h := rfl
theorem hN_sR (h : HP) (f a : Nat) (v : Nat) : hN (sR h f a v) = hN h := rfl
theorem hC_sR (h : HP) (f a : Nat) (v : Nat) : hC (sR h f a v) = hC h := rfl
theorem hZ_sR (h : HP) (f a : Nat) (v : Nat) : hZ (sR h f a v) = hZ h := rfl
theorem hI_sAI (h : HP) (f a : Nat) (v : Int32) : hI (sAI h f a v) = hI h := rfl
theorem hF_sAI (h : HP) (f a : Nat) (v : Int32) : hF (sAI h f a v) = hF h := rfl
theorem hR_sAI (h : HP) (f a : Nat) (v : Int32) : hR (sAI h f a v) = hR h := rfl
theorem hAI_sAI (h : HP) (f a : Nat) (v : Int32) (f1 a1 : Nat) : hAI (sAI h f a v) f1 a1 = if f1 = f ∧ a1 = a then v else hAI h f1 a1 := rfl
theorem hAF_sAI (h : HP) (f a : Nat) (v : Int32) : hAF (sAI h f a v) = hAF h := rfl
theorem hAR_sAI (h : HP) (f a : Nat) (v : Int32) : hAR (sAI h f a v) = hAR h := rfl
theorem hAL_sAI (h : HP) (f a : Nat) (v : Int32) : hAL (sAI h f a v) = hAL h := rfl
theorem hAD_sAI (h : HP) (f a : Nat) (v : Int32) : hAD (sAI h f a v) = hAD h := rfl
theorem hK_sAI (h : HP) (f a : Nat) (v : Int32) : hK (sAI h f a v) = hK h := rfl
theorem hL_sAI (h : HP) (f a : Nat) (v : Int32) : hL (sAI h f a v) = hL h := rfl
theorem hN_sAI (h : HP) (f a : Nat) (v : Int32) : hN (sAI h f a v) = hN h := rfl
theorem hC_sAI (h : HP) (f a : Nat) (v : Int32) : hC (sAI h f a v) = hC h := rfl
theorem hZ_sAI (h : HP) (f a : Nat) (v : Int32) : hZ (sAI h f a v) = hZ h := rfl
theorem hI_sAF (h : HP) (f a : Nat) (v : UInt32) : hI (sAF h f a v) = hI h := rfl
theorem hF_sAF (h : HP) (f a : Nat) (v : UInt32) : hF (sAF h f a v) = hF h := rfl
theorem hR_sAF (h : HP) (f a : Nat) (v : UInt32) : hR (sAF h f a v) = hR h := rfl
theorem hAI_sAF (h : HP) (f a : Nat) (v : UInt32) : hAI (sAF h f a v) = hAI h := rfl
theorem hAF_sAF (h : HP) (f a : Nat) (v : UInt32) (f1 a1 : Nat) : hAF (sAF h f a v) f1 a1 = if f1 = f ∧ a1 = a then v else hAF h f1 a1 := rfl
theorem hAR_sAF (h : HP) (f a : Nat) (v : UInt32) : hAR (sAF h f a v) = hAR h := rfl
theorem hAL_sAF (h : HP) (f a : Nat) (v : UInt32) : hAL (sAF h f a v) = hAL h := rfl
theorem hAD_sAF (h : HP) (f a : Nat) (v : UInt32) : hAD (sAF h f a v) = hAD h := rfl
theorem hK_sAF (h : HP) (f a : Nat) (v : UInt32) : hK (sAF h f a v) = hK h := rfl
theorem hL_sAF (h : HP) (f a : Nat) (v : UInt32) : hL (sAF h f a v) = hL h := rfl
theorem hN_sAF (h : HP) (f a : Nat) (v : UInt32) : hN (sAF h f a v) = hN h := rfl
theorem hC_sAF (h : HP) (f a : Nat) (v : UInt32) : hC (sAF h f a v) = hC h := rfl
theorem hZ_sAF (h : HP) (f a : Nat) (v : UInt32) : hZ (sAF h f a v) = hZ h := rfl
theorem hI_sAR (h : HP) (f a : Nat) (v : Nat) : hI (sAR h f a v) = hI h := rfl
theorem hF_sAR (h : HP) (f a : Nat) (v : Nat) : hF (sAR h f a v) = hF h := rfl
theorem hR_sAR (h : HP) (f a : Nat) (v : Nat) : hR (sAR h f a v) = hR h := rfl
theorem hAI_sAR (h : HP) (f a : Nat) (v : Nat) : hAI (sAR h f a v) = hAI h := rfl
theorem hAF_sAR (h : HP) (f a : Nat) (v : Nat) : hAF (sAR h f a v) = hAF h := rfl
theorem hAR_sAR (h : HP) (f a : Nat) (v : Nat) (f1 a1 : Nat) : hAR (sAR h f a v) f1 a1 = if f1 = f ∧ a1 = a then v else hAR h f1 a1 := rfl
theorem hAL_sAR (h : HP) (f a : Nat) (v : Nat) : hAL (sAR h f a v) = hAL h := rfl
theorem hAD_sAR (h : HP) (f a : Nat) (v : Nat) : hAD (sAR h f a v) = hAD h := rfl
theorem hK_sAR (h : HP) (f a : Nat) (v : Nat) : hK (sAR h f a v) = hK h := rfl
theorem hL_sAR (h : HP) (f a : Nat) (v : Nat) : hL (sAR h f a v) = hL h := rfl
theorem hN_sAR (h : HP) (f a : Nat) (v : Nat) : hN (sAR h f a v) = hN h := rfl
theorem hC_sAR (h : HP) (f a : Nat) (v : Nat) : hC (sAR h f a v) = hC h := rfl
theorem hZ_sAR (h : HP) (f a : Nat) (v : Nat) : hZ (sAR h f a v) = hZ h := rfl
theorem hI_sAL (h : HP) (f a : Nat) (v : Int64) : hI (sAL h f a v) = hI h := rfl
theorem hF_sAL (h : HP) (f a : Nat) (v : Int64) : hF (sAL h f a v) = hF h := rfl
theorem hR_sAL (h : HP) (f a : Nat) (v : Int64) : hR (sAL h f a v) = hR h := rfl
theorem hAI_sAL (h : HP) (f a : Nat) (v : Int64) : hAI (sAL h f a v) = hAI h := rfl
theorem hAF_sAL (h : HP) (f a : Nat) (v : Int64) : hAF (sAL h f a v) = hAF h := rfl
theorem hAR_sAL (h : HP) (f a : Nat) (v : Int64) : hAR (sAL h f a v) = hAR h := rfl
theorem hAL_sAL (h : HP) (f a : Nat) (v : Int64) (f1 a1 : Nat) : hAL (sAL h f a v) f1 a1 = if f1 = f ∧ a1 = a then v else hAL h f1 a1 := rfl
theorem hAD_sAL (h : HP) (f a : Nat) (v : Int64) : hAD (sAL h f a v) = hAD h := rfl
theorem hK_sAL (h : HP) (f a : Nat) (v : Int64) : hK (sAL h f a v) = hK h := rfl
theorem hL_sAL (h : HP) (f a : Nat) (v : Int64) : hL (sAL h f a v) = hL h := rfl
theorem hN_sAL (h : HP) (f a : Nat) (v : Int64) : hN (sAL h f a v) = hN h := rfl
theorem hC_sAL (h : HP) (f a : Nat) (v : Int64) : hC (sAL h f a v) = hC h := rfl
theorem hZ_sAL (h : HP) (f a : Nat) (v : Int64) : hZ (sAL h f a v) = hZ h := rfl
theorem hI_sAD (h : HP) (f a : Nat) (v : UInt64) : hI (sAD h f a v) = hI h := rfl
theorem hF_sAD (h : HP) (f a : Nat) (v : UInt64) : hF (sAD h f a v) = hF h := rfl
theorem hR_sAD (h : HP) (f a : Nat) (v : UInt64) : hR (sAD h f a v) = hR h := rfl
theorem hAI_sAD (h : HP) (f a : Nat) (v : UInt64) : hAI (sAD h f a v) = hAI h := rfl
theorem hAF_sAD (h : HP) (f a : Nat) (v : UInt64) : hAF (sAD h f a v) = hAF h := rfl
theorem hAR_sAD (h : HP) (f a : Nat) (v : UInt64) : hAR (sAD h f a v) = hAR h := rfl
theorem hAL_sAD (h : HP) (f a : Nat) (v : UInt64) : hAL (sAD h f a v) = hAL h := rfl
theorem hAD_sAD (h : HP) (f a : Nat) (v : UInt64) (f1 a1 : Nat) : hAD (sAD h f a v) f1 a1 = if f1 = f ∧ a1 = a then v else hAD h f1 a1 := rfl
theorem hK_sAD (h : HP) (f a : Nat) (v : UInt64) : hK (sAD h f a v) = hK h := rfl
theorem hL_sAD (h : HP) (f a : Nat) (v : UInt64) : hL (sAD h f a v) = hL h := rfl
theorem hN_sAD (h : HP) (f a : Nat) (v : UInt64) : hN (sAD h f a v) = hN h := rfl
theorem hC_sAD (h : HP) (f a : Nat) (v : UInt64) : hC (sAD h f a v) = hC h := rfl
theorem hZ_sAD (h : HP) (f a : Nat) (v : UInt64) : hZ (sAD h f a v) = hZ h := rfl
theorem hI_nw (h : HP) (k len sz f a : Nat) : hI (nw h k len sz) f a = if a = hN h then 0 else hI h f a := rfl
theorem hF_nw (h : HP) (k len sz f a : Nat) : hF (nw h k len sz) f a = if a = hN h then 0 else hF h f a := rfl
theorem hR_nw (h : HP) (k len sz f a : Nat) : hR (nw h k len sz) f a = if a = hN h then 0 else hR h f a := rfl
theorem hAI_nw (h : HP) (k len sz a i : Nat) : hAI (nw h k len sz) a i = if a = hN h then 0 else hAI h a i := rfl
theorem hAF_nw (h : HP) (k len sz a i : Nat) : hAF (nw h k len sz) a i = if a = hN h then 0 else hAF h a i := rfl
theorem hAR_nw (h : HP) (k len sz a i : Nat) : hAR (nw h k len sz) a i = if a = hN h then 0 else hAR h a i := rfl
theorem hAL_nw (h : HP) (k len sz a i : Nat) : hAL (nw h k len sz) a i = if a = hN h then 0 else hAL h a i := rfl
theorem hAD_nw (h : HP) (k len sz a i : Nat) : hAD (nw h k len sz) a i = if a = hN h then 0 else hAD h a i := rfl
theorem hK_nw (h : HP) (k len sz a : Nat) : hK (nw h k len sz) a = if a = hN h then k else hK h a := rfl
theorem hL_nw (h : HP) (k len sz a : Nat) : hL (nw h k len sz) a = if a = hN h then len else hL h a := rfl
theorem hN_nw (h : HP) (k len sz : Nat) : hN (nw h k len sz) = hN h + 1 := rfl
theorem hC_nw (h : HP) (k len sz : Nat) : hC (nw h k len sz) = hC h + 1 := rfl
theorem hZ_nw (h : HP) (k len sz : Nat) : hZ (nw h k len sz) = hZ h + sz := rfl
theorem hI_thr (h : HP) : hI (thr h) = hI h := rfl
theorem hF_thr (h : HP) : hF (thr h) = hF h := rfl
theorem hR_thr (h : HP) : hR (thr h) = hR h := rfl
theorem hAI_thr (h : HP) : hAI (thr h) = hAI h := rfl
theorem hAF_thr (h : HP) : hAF (thr h) = hAF h := rfl
theorem hAR_thr (h : HP) : hAR (thr h) = hAR h := rfl
theorem hAL_thr (h : HP) : hAL (thr h) = hAL h := rfl
theorem hAD_thr (h : HP) : hAD (thr h) = hAD h := rfl
theorem hK_thr (h : HP) : hK (thr h) = hK h := rfl
theorem hL_thr (h : HP) : hL (thr h) = hL h := rfl
theorem hN_thr (h : HP) : hN (thr h) = hN h := rfl
theorem hC_thr (h : HP) : hC (thr h) = hC h + 1 := rfl
theorem hZ_thr (h : HP) : hZ (thr h) = hZ h + 6 := rfl
/-- own class by its number -/
def ownR (n : Nat) : String := match n with
  | 0 => RX0
  | 1 => RX1
  | 2 => RX2
  | 3 => RX3
  | 4 => RX4
  | 5 => RX5
  | 6 => RX6
  | 7 => RX7
  | 8 => RX8
  | 9 => RX9
  | 10 => RX10
  | 11 => RX11
  | 12 => RX12
  | 13 => RL
  | _ => RJ6
/-- the kind of a field: 0 int, 1 float, 2 reference, 3 boolean -/
def ftT : List (List Nat) := [[3, 0, 0, 0, 0, 0], [2, 2], [0, 0, 0, 0, 0, 0, 3, 0, 0, 0], [0, 0, 0, 0], [2, 2, 0, 0, 0], [2, 2, 0, 2, 3, 1], [2, 2, 1, 1], [2, 0], [0, 2, 2, 2, 3, 1, 1, 0, 0, 0, 0, 0, 0, 1], [0, 0, 0, 0, 0, 0, 0, 1, 3, 2, 0, 0, 0, 0], [0, 0, 0, 2, 2, 2, 2], [2, 2, 2, 2, 2, 1], [0, 1, 1, 1, 0, 2, 2, 2, 2, 2, 2, 2, 2, 2, 2, 2, 2, 2, 2, 2, 2, 2, 2, 2, 2, 2, 2, 2, 2, 2, 2, 2, 2, 2, 2, 2, 2, 2, 2, 0, 0, 2, 2, 2, 2, 2, 2, 0, 2, 2, 0]]
def ftyp (ci k : Nat) : Nat := (ftT.getD ci []).getD k 9
def fnT : List (List Bool) := [[false, false, false, false, false, false], [true, true], [false, false, false, false, false, false, false, false, false, false], [true, true, true, true], [true, true, false, false, false], [true, true, false, true, false, false], [true, true, false, false], [true, false], [true, true, true, true, false, false, false, false, false, false, false, false, false, false], [false, false, false, false, false, false, false, false, false, true, false, false, false, false], [false, false, false, true, true, false, true], [true, true, true, true, true, false], [false, false, false, false, false, true, true, true, true, true, true, true, true, true, true, true, true, true, true, true, true, true, true, true, true, true, true, true, true, true, true, true, true, true, true, true, true, true, true, false, false, true, true, true, true, true, true, false, true, true, false]]
def ffin (ci k : Nat) : Bool := (fnT.getD ci []).getD k true
def nfT : List Nat := [6, 2, 10, 4, 5, 6, 4, 2, 14, 14, 7, 6, 51]
def nfld (ci : Nat) : Nat := nfT.getD ci 0
/-- a method: own class, name, code, locals, answer, parameters, handlers, whether it is a constructor -/
abbrev MI : Type := Nat × MethodName × ByteArray × Nat × Option FieldType × Nat × List (Nat × Nat × Nat × Nat) × Bool
def mOwn (y : MI) : Nat := y.1
def mNm (y : MI) : MethodName := y.2.1
def mCode (y : MI) : ByteArray := y.2.2.1
def mML (y : MI) : Nat := y.2.2.2.1
def mRet (y : MI) : Option FieldType := y.2.2.2.2.1
def mNa (y : MI) : Nat := y.2.2.2.2.2.1
def mHH (y : MI) : List (Nat × Nat × Nat × Nat) := y.2.2.2.2.2.2.1
def mIni (y : MI) : Bool := y.2.2.2.2.2.2.2
def mX0_init : MI := (0, yX0_init, cX0_init, 1, none, 0, [], true)
def mX0_start : MI := (0, yX0_start, cX0_start, 4, none, 3, [], false)
def mX0_isAnsweredAhead : MI := (0, yX0_isAnsweredAhead, cX0_isAnsweredAhead, 2, (some .boolean), 1, [], false)
def mX0_fitsBetween : MI := (0, yX0_fitsBetween, cX0_fitsBetween, 3, (some .boolean), 2, [], false)
def mX1_init : MI := (1, yX1_init, cX1_init, 3, none, 2, [], true)
def mX1_letPropose : MI := (1, yX1_letPropose, cX1_letPropose, 6, (some .int), 3, [], false)
def mX1_hear : MI := (1, yX1_hear, cX1_hear, 4, none, 1, [], false)
def mX1_hearPrepare : MI := (1, yX1_hearPrepare, cX1_hearPrepare, 4, none, 2, [], false)
def mX1_hearPromised : MI := (1, yX1_hearPromised, cX1_hearPromised, 4, none, 3, [], false)
def mX1_sendAccepts : MI := (1, yX1_sendAccepts, cX1_sendAccepts, 6, none, 3, [], false)
def mX1_hearAccept : MI := (1, yX1_hearAccept, cX1_hearAccept, 3, none, 2, [], false)
def mX1_hearAccepted : MI := (1, yX1_hearAccepted, cX1_hearAccepted, 3, none, 2, [], false)
def mX2_init : MI := (2, yX2_init, cX2_init, 1, none, 0, [], true)
def mX2_renew : MI := (2, yX2_renew, cX2_renew, 1, none, 0, [], false)
def mX2_dropProposal : MI := (2, yX2_dropProposal, cX2_dropProposal, 1, none, 0, [], false)
def mX2_nextBallot : MI := (2, yX2_nextBallot, cX2_nextBallot, 3, (some .int), 1, [], false)
def mX2_startProposal : MI := (2, yX2_startProposal, cX2_startProposal, 4, none, 3, [], false)
def mX2_learnTold : MI := (2, yX2_learnTold, cX2_learnTold, 3, none, 2, [], false)
def mX2_takeOn : MI := (2, yX2_takeOn, cX2_takeOn, 3, none, 2, [], false)
def mX3_init : MI := (3, yX3_init, cX3_init, 5, none, 4, [], true)
def mX3_isLike : MI := (3, yX3_isLike, cX3_isLike, 2, (some .boolean), 1, [], false)
def mX3_outdoes : MI := (3, yX3_outdoes, cX3_outdoes, 3, (some .boolean), 2, [], false)
def mX4_init : MI := (4, yX4_init, cX4_init, 2, none, 0, [], true)
def mX4_renew : MI := (4, yX4_renew, cX4_renew, 1, none, 0, [], false)
def mX4_goOn : MI := (4, yX4_goOn, cX4_goOn, 1, none, 0, [], false)
def mX4_isFull : MI := (4, yX4_isFull, cX4_isFull, 1, (some .boolean), 0, [], false)
def mX4_at : MI := (4, yX4_at, cX4_at, 2, (some (.object "QuorumHall$Act")), 1, [], false)
def mX4_findWrite : MI := (4, yX4_findWrite, cX4_findWrite, 4, (some (.object "QuorumHall$Act")), 2, [], false)
def mX4_addWrite : MI := (4, yX4_addWrite, cX4_addWrite, 5, none, 3, [], false)
def mX4_addRead : MI := (4, yX4_addRead, cX4_addRead, 3, none, 1, [], false)
def mX4_answerWrites : MI := (4, yX4_answerWrites, cX4_answerWrites, 4, none, 1, [], false)
def mX4_hasOneOrder : MI := (4, yX4_hasOneOrder, cX4_hasOneOrder, 1, (some .boolean), 0, [], false)
def mX4_canFeed : MI := (4, yX4_canFeed, cX4_canFeed, 12, (some .boolean), 5, [], false)
def mX4_writesDueAhead : MI := (4, yX4_writesDueAhead, cX4_writesDueAhead, 4, (some .int), 1, [], false)
def mX4_writesAheadOf : MI := (4, yX4_writesAheadOf, cX4_writesAheadOf, 6, (some .int), 3, [], false)
def mX5_init : MI := (5, yX5_init, cX5_init, 1, none, 0, [], true)
def mX5_start : MI := (5, yX5_start, cX5_start, 3, none, 1, [], false)
def mX5_learnSame : MI := (5, yX5_learnSame, cX5_learnSame, 3, none, 2, [], false)
def mX5_learnClock : MI := (5, yX5_learnClock, cX5_learnClock, 3, none, 2, [], false)
def mX5_knowing : MI := (5, yX5_knowing, cX5_knowing, 4, (some .int), 1, [], false)
def mX5_clockOf : MI := (5, yX5_clockOf, cX5_clockOf, 4, (some .float), 1, [], false)
def mX5_answeredSince : MI := (5, yX5_answeredSince, cX5_answeredSince, 4, (some .int), 1, [], false)
def mX5_hasAnswered : MI := (5, yX5_hasAnswered, cX5_hasAnswered, 2, (some .boolean), 1, [], false)
def mX6_init : MI := (6, yX6_init, cX6_init, 3, none, 2, [], true)
def mX6_renew : MI := (6, yX6_renew, cX6_renew, 1, none, 0, [], false)
def mX6_letStand : MI := (6, yX6_letStand, cX6_letStand, 4, none, 1, [], false)
def mX6_letBeat : MI := (6, yX6_letBeat, cX6_letBeat, 5, (some .int), 1, [], false)
def mX6_hear : MI := (6, yX6_hear, cX6_hear, 3, none, 1, [], false)
def mX6_hearAsk : MI := (6, yX6_hearAsk, cX6_hearAsk, 4, none, 2, [], false)
def mX6_hearVote : MI := (6, yX6_hearVote, cX6_hearVote, 3, none, 2, [], false)
def mX6_hearAppend : MI := (6, yX6_hearAppend, cX6_hearAppend, 4, none, 2, [], false)
def mX6_putEntries : MI := (6, yX6_putEntries, cX6_putEntries, 6, none, 2, [], false)
def mX6_sendAck : MI := (6, yX6_sendAck, cX6_sendAck, 6, none, 4, [], false)
def mX6_hearAck : MI := (6, yX6_hearAck, cX6_hearAck, 3, none, 2, [], false)
def mX6_commitWhatMostKnow : MI := (6, yX6_commitWhatMostKnow, cX6_commitWhatMostKnow, 3, none, 1, [], false)
def mX6_renewLease : MI := (6, yX6_renewLease, cX6_renewLease, 2, none, 1, [], false)
def mX7_init : MI := (7, yX7_init, cX7_init, 1, none, 0, [], true)
def mX7_isFull : MI := (7, yX7_isFull, cX7_isFull, 1, (some .boolean), 0, [], false)
def mX7_at : MI := (7, yX7_at, cX7_at, 2, (some (.object "QuorumHall$Entry")), 1, [], false)
def mX7_termAt : MI := (7, yX7_termAt, cX7_termAt, 3, (some .int), 1, [], false)
def mX7_put : MI := (7, yX7_put, cX7_put, 2, none, 1, [], false)
def mX7_cutBehind : MI := (7, yX7_cutBehind, cX7_cutBehind, 2, none, 1, [], false)
def mX7_numberOf : MI := (7, yX7_numberOf, cX7_numberOf, 4, (some .int), 2, [], false)
def mX7_hasSerial : MI := (7, yX7_hasSerial, cX7_hasSerial, 3, (some .boolean), 2, [], false)
def mX7_valueUpTo : MI := (7, yX7_valueUpTo, cX7_valueUpTo, 4, (some .int), 1, [], false)
def mX7_isLikeUpTo : MI := (7, yX7_isLikeUpTo, cX7_isLikeUpTo, 5, (some .boolean), 2, [], false)
def mX7_isOutdone : MI := (7, yX7_isOutdone, cX7_isOutdone, 5, (some .boolean), 3, [], false)
def mX8_init : MI := (8, yX8_init, cX8_init, 3, none, 1, [], true)
def mX8_renew : MI := (8, yX8_renew, cX8_renew, 2, none, 0, [], false)
def mX8_crash : MI := (8, yX8_crash, cX8_crash, 2, none, 0, [], false)
def mX8_rise : MI := (8, yX8_rise, cX8_rise, 2, none, 1, [], false)
def mX8_letPass : MI := (8, yX8_letPass, cX8_letPass, 2, none, 1, [], false)
def mX8_follow : MI := (8, yX8_follow, cX8_follow, 1, none, 0, [], false)
def mX8_learnTerm : MI := (8, yX8_learnTerm, cX8_learnTerm, 2, none, 1, [], false)
def mX8_promise : MI := (8, yX8_promise, cX8_promise, 3, none, 2, [], false)
def mX8_hasPromised : MI := (8, yX8_hasPromised, cX8_hasPromised, 1, (some .boolean), 0, [], false)
def mX8_holdsLease : MI := (8, yX8_holdsLease, cX8_holdsLease, 1, (some .boolean), 0, [], false)
def mX8_agreedInItsTerm : MI := (8, yX8_agreedInItsTerm, cX8_agreedInItsTerm, 1, (some .boolean), 0, [], false)
def mX8_canVoteFor : MI := (8, yX8_canVoteFor, cX8_canVoteFor, 3, (some .boolean), 1, [], false)
def mX8_agreesWith : MI := (8, yX8_agreesWith, cX8_agreesWith, 5, (some .boolean), 1, [], false)
def mX9_init : MI := (9, yX9_init, cX9_init, 1, none, 0, [], true)
def mX9_start : MI := (9, yX9_start, cX9_start, 5, none, 4, [], false)
def mX9_copyRest : MI := (9, yX9_copyRest, cX9_copyRest, 3, none, 1, [], false)
def mX9_addEntriesBehind : MI := (9, yX9_addEntriesBehind, cX9_addEntriesBehind, 5, none, 2, [], false)
def mX10_init : MI := (10, yX10_init, cX10_init, 2, none, 0, [], true)
def mX10_renew : MI := (10, yX10_renew, cX10_renew, 3, none, 1, [], false)
def mX10_most : MI := (10, yX10_most, cX10_most, 1, (some .int), 0, [], false)
def mX10_areMost : MI := (10, yX10_areMost, cX10_areMost, 2, (some .boolean), 1, [], false)
def mX10_at : MI := (10, yX10_at, cX10_at, 2, (some (.object "QuorumHall$Message")), 1, [], false)
def mX10_send : MI := (10, yX10_send, cX10_send, 6, (some (.object "QuorumHall$Message")), 4, [], false)
def mX10_takeOut : MI := (10, yX10_takeOut, cX10_takeOut, 4, none, 1, [], false)
def mX10_isCut : MI := (10, yX10_isCut, cX10_isCut, 3, (some .boolean), 2, [], false)
def mX10_switchCut : MI := (10, yX10_switchCut, cX10_switchCut, 4, (some .boolean), 2, [], false)
def mX11_init : MI := (11, yX11_init, cX11_init, 2, none, 0, [], true)
def mX11_begin : MI := (11, yX11_begin, cX11_begin, 3, (some .int), 1, [], false)
def mX11_toggle : MI := (11, yX11_toggle, cX11_toggle, 3, (some .boolean), 1, [], false)
def mX11_cut : MI := (11, yX11_cut, cX11_cut, 3, (some .boolean), 2, [], false)
def mX11_rate : MI := (11, yX11_rate, cX11_rate, 4, (some .float), 2, [], false)
def mX11_spans : MI := (11, yX11_spans, cX11_spans, 3, none, 2, [], false)
def mX11_pass : MI := (11, yX11_pass, cX11_pass, 4, (some .float), 1, [], false)
def mX11_deliver : MI := (11, yX11_deliver, cX11_deliver, 4, (some .int), 1, [], false)
def mX11_lose : MI := (11, yX11_lose, cX11_lose, 2, (some .int), 1, [], false)
def mX11_twice : MI := (11, yX11_twice, cX11_twice, 3, (some .int), 1, [], false)
def mX11_stand : MI := (11, yX11_stand, cX11_stand, 3, (some .int), 1, [], false)
def mX11_beat : MI := (11, yX11_beat, cX11_beat, 3, (some .int), 1, [], false)
def mX11_request : MI := (11, yX11_request, cX11_request, 7, (some .int), 4, [], false)
def mX11_read : MI := (11, yX11_read, cX11_read, 4, (some .int), 1, [], false)
def mX11_propose : MI := (11, yX11_propose, cX11_propose, 5, (some .int), 3, [], false)
def mX11_steps : MI := (11, yX11_steps, cX11_steps, 1, (some .int), 0, [], false)
def mX11_messages : MI := (11, yX11_messages, cX11_messages, 1, (some .int), 0, [], false)
def mX11_message : MI := (11, yX11_message, cX11_message, 4, (some .int), 2, [], false)
def mX11_of : MI := (11, yX11_of, cX11_of, 4, (some .int), 2, [], false)
def mX11_entry : MI := (11, yX11_entry, cX11_entry, 5, (some .int), 3, [], false)
def mX11_clock : MI := (11, yX11_clock, cX11_clock, 2, (some .float), 1, [], false)
def mX11_lease : MI := (11, yX11_lease, cX11_lease, 3, (some .float), 1, [], false)
def mX11_leases : MI := (11, yX11_leases, cX11_leases, 3, (some .int), 0, [], false)
def mX11_decision : MI := (11, yX11_decision, cX11_decision, 5, (some .int), 3, [], false)
def mX11_acts : MI := (11, yX11_acts, cX11_acts, 1, (some .int), 0, [], false)
def mX11_act : MI := (11, yX11_act, cX11_act, 4, (some .int), 2, [], false)
def mX11_isInOrder : MI := (11, yX11_isInOrder, cX11_isInOrder, 1, (some .boolean), 0, [], false)
def mX11_isAgreed : MI := (11, yX11_isAgreed, cX11_isAgreed, 3, (some .boolean), 0, [], false)
def mX11_renew : MI := (11, yX11_renew, cX11_renew, 3, none, 1, [], false)
def mX11_needMachine : MI := (11, yX11_needMachine, cX11_needMachine, 2, (some (.object "QuorumHall$Machine")), 1, [], false)
def mX11_needChoice : MI := (11, yX11_needChoice, cX11_needChoice, 3, (some (.object "QuorumHall$Choice")), 2, [], false)
def mX11_needRange : MI := (11, yX11_needRange, cX11_needRange, 3, none, 3, [], false)
def mX11_needMessage : MI := (11, yX11_needMessage, cX11_needMessage, 3, (some (.object "QuorumHall$Message")), 1, [], false)
def mX12_init : MI := (12, yX12_init, cX12_init, 1, none, 0, [], true)
def mX12_thrown : MI := (12, yX12_thrown, cX12_thrown, 1, (some .int), 0, [], false)
def mX12_in : MI := (12, yX12_in, cX12_in, 3, (some .boolean), 3, [], false)
def mX12_goes : MI := (12, yX12_goes, cX12_goes, 4, (some .boolean), 3, [], false)
def mX12_isMachine : MI := (12, yX12_isMachine, cX12_isMachine, 2, (some .boolean), 1, [], false)
def mX12_most : MI := (12, yX12_most, cX12_most, 1, (some .int), 0, [], false)
def mX12_bits : MI := (12, yX12_bits, cX12_bits, 3, (some .int), 1, [], false)
def mX12_begins : MI := (12, yX12_begins, cX12_begins, 3, none, 1, [], false)
def mX12_begin : MI := (12, yX12_begin, cX12_begin, 3, (some .int), 1, [], false)
def mX12_ends : MI := (12, yX12_ends, cX12_ends, 2, none, 0, [], false)
def mX12_isAgreedAt : MI := (12, yX12_isAgreedAt, cX12_isAgreedAt, 4, (some .boolean), 1, [], false)
def mX12_follows : MI := (12, yX12_follows, cX12_follows, 2, none, 1, [], false)
def mX12_toggle : MI := (12, yX12_toggle, cX12_toggle, 3, (some .boolean), 1, [], false)
def mX12_cut : MI := (12, yX12_cut, cX12_cut, 3, (some .boolean), 2, [], false)
def mX12_rate : MI := (12, yX12_rate, cX12_rate, 3, (some .float), 2, [], false)
def mX12_spans : MI := (12, yX12_spans, cX12_spans, 3, none, 2, [], false)
def mX12_pass : MI := (12, yX12_pass, cX12_pass, 4, (some .float), 1, [], false)
def mX12_sends : MI := (12, yX12_sends, cX12_sends, 7, (some .int), 4, [], false)
def mX12_leaves : MI := (12, yX12_leaves, cX12_leaves, 3, none, 1, [], false)
def mX12_isMessage : MI := (12, yX12_isMessage, cX12_isMessage, 2, (some .boolean), 1, [], false)
def mX12_lose : MI := (12, yX12_lose, cX12_lose, 2, (some .int), 1, [], false)
def mX12_twice : MI := (12, yX12_twice, cX12_twice, 3, (some .int), 1, [], false)
def mX12_deliver : MI := (12, yX12_deliver, cX12_deliver, 7, (some .int), 1, [], false)
def mX12_termAt : MI := (12, yX12_termAt, cX12_termAt, 3, (some .int), 2, [], false)
def mX12_promises : MI := (12, yX12_promises, cX12_promises, 2, (some .boolean), 1, [], false)
def mX12_stand : MI := (12, yX12_stand, cX12_stand, 6, (some .int), 1, [], false)
def mX12_asked : MI := (12, yX12_asked, cX12_asked, 8, none, 1, [], false)
def mX12_voted : MI := (12, yX12_voted, cX12_voted, 3, none, 1, [], false)
def mX12_beat : MI := (12, yX12_beat, cX12_beat, 11, (some .int), 1, [], false)
def mX12_acks : MI := (12, yX12_acks, cX12_acks, 7, none, 5, [], false)
def mX12_appended : MI := (12, yX12_appended, cX12_appended, 10, none, 2, [], false)
def mX12_rankedSame : MI := (12, yX12_rankedSame, cX12_rankedSame, 7, (some .int), 2, [], false)
def mX12_acknowledged : MI := (12, yX12_acknowledged, cX12_acknowledged, 5, none, 2, [], false)
def mX12_leases : MI := (12, yX12_leases, cX12_leases, 7, none, 1, [], false)
def mX12_actOf : MI := (12, yX12_actOf, cX12_actOf, 4, (some .int), 2, [], false)
def mX12_acts : MI := (12, yX12_acts, cX12_acts, 6, none, 5, [], false)
def mX12_entryOf : MI := (12, yX12_entryOf, cX12_entryOf, 7, (some .int), 4, [], false)
def mX12_request : MI := (12, yX12_request, cX12_request, 11, (some .int), 4, [], false)
def mX12_valueOf : MI := (12, yX12_valueOf, cX12_valueOf, 7, (some .int), 1, [], false)
def mX12_holdsLease : MI := (12, yX12_holdsLease, cX12_holdsLease, 2, (some .boolean), 1, [], false)
def mX12_read : MI := (12, yX12_read, cX12_read, 5, (some .int), 1, [], false)
def mX12_propose : MI := (12, yX12_propose, cX12_propose, 9, (some .int), 3, [], false)
def mX12_prepared : MI := (12, yX12_prepared, cX12_prepared, 4, none, 1, [], false)
def mX12_promised : MI := (12, yX12_promised, cX12_promised, 5, none, 1, [], false)
def mX12_accepted : MI := (12, yX12_accepted, cX12_accepted, 4, none, 1, [], false)
def mX12_counts : MI := (12, yX12_counts, cX12_counts, 3, none, 1, [], false)
def mX12_steps : MI := (12, yX12_steps, cX12_steps, 1, (some .int), 0, [], false)
def mX12_messages : MI := (12, yX12_messages, cX12_messages, 1, (some .int), 0, [], false)
def mX12_message : MI := (12, yX12_message, cX12_message, 4, (some .int), 2, [], false)
def mX12_of : MI := (12, yX12_of, cX12_of, 4, (some .int), 2, [], false)
def mX12_entry : MI := (12, yX12_entry, cX12_entry, 6, (some .int), 3, [], false)
def mX12_clock : MI := (12, yX12_clock, cX12_clock, 2, (some .float), 1, [], false)
def mX12_lease : MI := (12, yX12_lease, cX12_lease, 2, (some .float), 1, [], false)
def mX12_leases_ : MI := (12, yX12_leases_, cX12_leases_, 3, (some .int), 0, [], false)
def mX12_decision : MI := (12, yX12_decision, cX12_decision, 6, (some .int), 3, [], false)
def mX12_acts_ : MI := (12, yX12_acts_, cX12_acts_, 1, (some .int), 0, [], false)
def mX12_act : MI := (12, yX12_act, cX12_act, 3, (some .int), 2, [], false)
def mX12_mayCome : MI := (12, yX12_mayCome, cX12_mayCome, 5, (some .boolean), 2, [], false)
def mX12_isInOrder : MI := (12, yX12_isInOrder, cX12_isInOrder, 8, (some .boolean), 0, [], false)
def mX12_areAlike : MI := (12, yX12_areAlike, cX12_areAlike, 8, (some .boolean), 2, [], false)
def mX12_isAgreed : MI := (12, yX12_isAgreed, cX12_isAgreed, 4, (some .boolean), 0, [], false)
def mJ6_bitCount_0f7a4 : MI := (14, yJ6_bitCount_0f7a4, cJ6_bitCount_0f7a4, 1, (some .int), 1, [], false)
def mL_begin : MI := (13, yL_begin, cL_begin, 4, (some .int), 3, [(0, 9, 12, 13)], false)
def mL_toggle : MI := (13, yL_toggle, cL_toggle, 4, (some .int), 3, [(0, 16, 19, 19)], false)
def mL_cut : MI := (13, yL_cut, cL_cut, 5, (some .int), 4, [(0, 17, 20, 19), (0, 17, 24, 13)], false)
def mL_rate : MI := (13, yL_rate, cL_rate, 5, (some .int), 4, [(0, 10, 13, 19), (0, 10, 17, 13)], false)
def mL_spans : MI := (13, yL_spans, cL_spans, 4, (some .int), 3, [(0, 6, 9, 13)], false)
def mL_pass : MI := (13, yL_pass, cL_pass, 4, (some .int), 3, [(0, 9, 12, 13)], false)
def mL_deliver : MI := (13, yL_deliver, cL_deliver, 4, (some .int), 3, [(0, 9, 12, 19), (0, 9, 15, 40)], false)
def mL_lose : MI := (13, yL_lose, cL_lose, 4, (some .int), 3, [(0, 9, 12, 19)], false)
def mL_twice : MI := (13, yL_twice, cL_twice, 4, (some .int), 3, [(0, 9, 12, 19)], false)
def mL_stand : MI := (13, yL_stand, cL_stand, 4, (some .int), 3, [(0, 9, 12, 19), (0, 9, 15, 40)], false)
def mL_beat : MI := (13, yL_beat, cL_beat, 4, (some .int), 3, [(0, 9, 12, 19), (0, 9, 15, 40)], false)
def mL_request : MI := (13, yL_request, cL_request, 7, (some .int), 6, [(0, 14, 17, 19), (0, 14, 21, 13), (0, 14, 25, 40)], false)
def mL_read : MI := (13, yL_read, cL_read, 4, (some .int), 3, [(0, 9, 12, 19), (0, 9, 15, 40)], false)
def mL_propose : MI := (13, yL_propose, cL_propose, 6, (some .int), 5, [(0, 12, 15, 19), (0, 12, 19, 13), (0, 12, 23, 40)], false)
def mL_message : MI := (13, yL_message, cL_message, 5, (some .int), 4, [(0, 10, 13, 19), (0, 10, 17, 13)], false)
def mL_of : MI := (13, yL_of, cL_of, 5, (some .int), 4, [(0, 10, 13, 19), (0, 10, 17, 13)], false)
def mL_entry : MI := (13, yL_entry, cL_entry, 6, (some .int), 5, [(0, 12, 15, 19), (0, 12, 19, 13)], false)
def mL_clock : MI := (13, yL_clock, cL_clock, 4, (some .int), 3, [(0, 9, 12, 19)], false)
def mL_lease : MI := (13, yL_lease, cL_lease, 4, (some .int), 3, [(0, 9, 12, 19)], false)
def mL_decision : MI := (13, yL_decision, cL_decision, 6, (some .int), 5, [(0, 12, 15, 19), (0, 12, 19, 13)], false)
def mL_act : MI := (13, yL_act, cL_act, 5, (some .int), 4, [(0, 10, 13, 19), (0, 10, 17, 13)], false)
def mL_law : MI := (13, yL_law, cL_law, 8, (some .boolean), 1, [], false)
/-- fields by own class and pool number: class, place, place of the word in lw_tbl -/
def frT_0 : List (Nat × Nat × Nat × Nat × Nat) := [(0, 9, 0, 0, 1191), (0, 15, 0, 3, 1198), (0, 19, 0, 4, 1201), (0, 22, 0, 5, 1204), (0, 25, 0, 1, 1194), (0, 28, 0, 2, 1196), (1, 9, 1, 0, 1171), (1, 15, 1, 1, 1172), (1, 19, 8, 3, 2118), (1, 25, 8, 0, 2108), (1, 39, 10, 0, 1119), (1, 44, 2, 4, 2074), (1, 51, 9, 11, 1082), (1, 56, 9, 2, 1057), (1, 59, 9, 0, 1048), (1, 76, 9, 3, 1061), (1, 79, 2, 0, 2062), (1, 82, 9, 1, 1052), (1, 85, 2, 1, 2065), (1, 88, 9, 12, 1084), (1, 89, 2, 2, 2068), (1, 92, 9, 13, 1086), (1, 95, 2, 6, 2079), (1, 99, 2, 7, 2081), (1, 114, 2, 8, 2083), (1, 117, 2, 9, 2085), (1, 120, 2, 5, 2077), (1, 124, 2, 3, 2071), (2, 9, 2, 0, 2061), (2, 15, 2, 1, 2064), (2, 18, 2, 2, 2067), (2, 21, 2, 3, 2070), (2, 27, 2, 4, 2075), (2, 30, 2, 5, 2076), (2, 33, 2, 6, 2078), (2, 37, 2, 7, 2080), (2, 40, 2, 8, 2082), (2, 43, 2, 9, 2084), (3, 7, 3, 0, 5044), (3, 13, 3, 1, 5048), (3, 16, 3, 2, 5051), (3, 19, 3, 3, 5054), (4, 11, 4, 0, 1220), (4, 17, 4, 1, 1221), (4, 21, 4, 2, 1222), (4, 25, 4, 4, 1226), (4, 28, 4, 3, 1224), (4, 31, 0, 0, 1192), (4, 35, 0, 1, 1195), (4, 38, 0, 2, 1197), (4, 45, 0, 5, 1205), (4, 48, 8, 7, 2129), (4, 53, 8, 1, 2112), (4, 63, 8, 10, 2139), (4, 70, 0, 4, 1202), (4, 77, 0, 3, 1199), (5, 9, 5, 0, 2026), (5, 15, 5, 1, 2028), (5, 18, 5, 3, 2031), (5, 22, 5, 2, 2029)]
def frT_1 : List (Nat × Nat × Nat × Nat × Nat) := [(5, 26, 5, 4, 2032), (6, 9, 6, 0, 1150), (6, 15, 6, 1, 1151), (6, 20, 6, 2, 1152), (6, 24, 6, 3, 1154), (6, 27, 8, 8, 2132), (6, 33, 8, 0, 2109), (6, 36, 8, 9, 2135), (6, 39, 8, 7, 2127), (6, 42, 8, 11, 2142), (6, 45, 10, 0, 1120), (6, 54, 8, 1, 2111), (6, 58, 7, 1, 2012), (6, 63, 9, 4, 1065), (6, 70, 9, 5, 1068), (6, 73, 8, 2, 2115), (6, 77, 5, 0, 2027), (6, 87, 8, 10, 2138), (6, 90, 9, 6, 1071), (6, 91, 8, 5, 2123), (6, 94, 9, 7, 1073), (6, 95, 9, 10, 1079), (6, 98, 9, 2, 1058), (6, 101, 9, 3, 1062), (6, 106, 9, 0, 1049), (6, 126, 9, 1, 1053), (6, 129, 9, 8, 1075), (6, 164, 9, 9, 1077), (6, 168, 3, 0, 5046), (6, 199, 5, 2, 2030), (6, 202, 5, 4, 2034), (6, 209, 5, 5, 2037), (7, 11, 7, 0, 2010), (7, 17, 7, 1, 2011), (7, 25, 3, 0, 5045), (7, 28, 3, 1, 5049), (7, 31, 3, 2, 5052), (7, 44, 3, 3, 5055), (8, 12, 8, 1, 2110), (8, 21, 8, 2, 2114), (8, 27, 8, 3, 2117), (8, 31, 8, 0, 2107), (8, 36, 8, 4, 2120), (8, 40, 8, 5, 2122), (8, 44, 8, 6, 2125), (8, 47, 8, 8, 2131), (8, 50, 8, 9, 2134), (8, 53, 8, 10, 2137), (8, 56, 8, 11, 2141), (8, 59, 8, 12, 2143), (8, 62, 8, 13, 2145), (8, 82, 8, 7, 2128), (8, 85, 5, 4, 2033), (8, 88, 5, 5, 2036), (8, 95, 9, 1, 1055), (8, 104, 7, 1, 2013), (8, 107, 9, 5, 1069), (8, 110, 9, 4, 1066), (8, 111, 2, 3, 2072), (9, 11, 9, 9, 1076)]
def frT_2 : List (Nat × Nat × Nat × Nat × Nat) := [(9, 17, 9, 0, 1047), (9, 21, 9, 1, 1051), (9, 24, 9, 2, 1056), (9, 27, 9, 3, 1060), (9, 30, 9, 4, 1064), (9, 33, 9, 5, 1067), (9, 36, 9, 6, 1070), (9, 39, 9, 7, 1072), (9, 43, 9, 8, 1074), (9, 47, 9, 10, 1078), (9, 50, 9, 11, 1081), (9, 53, 9, 12, 1083), (9, 56, 9, 13, 1085), (10, 11, 10, 3, 1125), (10, 17, 10, 4, 1126), (10, 22, 10, 5, 1127), (10, 26, 10, 6, 1128), (10, 29, 10, 0, 1117), (10, 33, 10, 1, 1121), (10, 36, 10, 2, 1123), (11, 11, 11, 0, 2212), (11, 18, 11, 1, 2213), (11, 27, 11, 2, 2214), (11, 34, 11, 3, 2215), (11, 41, 11, 4, 2216), (11, 58, 10, 0, 1118), (11, 69, 8, 4, 2121), (11, 76, 6, 2, 1153), (11, 95, 8, 6, 2126), (11, 98, 8, 5, 2124), (11, 103, 6, 3, 1155), (11, 106, 11, 5, 2217), (11, 116, 9, 2, 1059), (11, 121, 9, 1, 1054), (11, 135, 10, 2, 1124), (11, 138, 9, 0, 1050), (11, 150, 10, 1, 1122), (11, 153, 9, 3, 1063), (11, 163, 8, 7, 2130), (11, 175, 8, 8, 2133), (11, 191, 0, 3, 1200), (11, 198, 8, 1, 2113), (11, 237, 8, 10, 2140), (11, 257, 4, 3, 1225), (11, 260, 9, 10, 1080), (11, 265, 8, 9, 2136), (11, 268, 7, 1, 2014), (11, 269, 8, 12, 2144), (11, 278, 3, 0, 5047), (11, 279, 3, 1, 5050), (11, 282, 3, 2, 5053), (11, 285, 3, 3, 5056), (11, 286, 8, 2, 2116), (11, 290, 5, 4, 2035), (11, 295, 5, 5, 2038), (11, 299, 2, 0, 2063), (11, 304, 2, 1, 2066), (11, 307, 2, 2, 2069), (11, 310, 2, 3, 2073), (11, 313, 4, 2, 1223)]
def frT_3 : List (Nat × Nat × Nat × Nat × Nat) := [(11, 319, 0, 0, 1193), (11, 322, 0, 4, 1203), (11, 325, 0, 5, 1206), (11, 344, 8, 3, 2119), (12, 7, 12, 0, 5182), (12, 14, 12, 2, 5184), (12, 18, 12, 5, 5187), (12, 22, 12, 6, 5188), (12, 25, 12, 7, 5189), (12, 29, 12, 8, 5190), (12, 32, 12, 9, 5191), (12, 36, 12, 10, 5192), (12, 39, 12, 11, 5193), (12, 42, 12, 12, 5194), (12, 45, 12, 13, 5195), (12, 48, 12, 14, 5196), (12, 51, 12, 15, 5197), (12, 54, 12, 16, 5198), (12, 57, 12, 17, 5199), (12, 60, 12, 18, 5200), (12, 63, 12, 19, 5201), (12, 66, 12, 20, 5202), (12, 69, 12, 21, 5203), (12, 72, 12, 22, 5204), (12, 75, 12, 23, 5205), (12, 78, 12, 24, 5206), (12, 81, 12, 25, 5207), (12, 84, 12, 26, 5208), (12, 87, 12, 27, 5209), (12, 90, 12, 28, 5210), (12, 93, 12, 29, 5211), (12, 96, 12, 30, 5212), (12, 99, 12, 31, 5213), (12, 102, 12, 32, 5214), (12, 105, 12, 33, 5215), (12, 108, 12, 34, 5216), (12, 111, 12, 35, 5217), (12, 114, 12, 36, 5218), (12, 117, 12, 37, 5219), (12, 120, 12, 38, 5220), (12, 123, 12, 41, 5223), (12, 126, 12, 42, 5224), (12, 129, 12, 43, 5225), (12, 132, 12, 44, 5226), (12, 135, 12, 45, 5227), (12, 138, 12, 46, 5228), (12, 141, 12, 48, 5230), (12, 144, 12, 49, 5231), (12, 151, 12, 50, 5232), (12, 158, 12, 1, 5183), (12, 161, 12, 3, 5185), (12, 164, 12, 4, 5186), (12, 167, 12, 39, 5221), (12, 170, 12, 47, 5229), (12, 192, 12, 40, 5222)]
def frT : List (Nat × Nat × Nat × Nat × Nat) := frT_0 ++ (frT_1 ++ (frT_2 ++ (frT_3)))
def fres (oc i : Nat) : Option (Nat × Nat) := (frT.find? (fun q => q.1 == oc && q.2.1 == i)).map (fun q => (q.2.2.1, q.2.2.2.1))
/-- classes made with new, by own class and pool number: the class; places of three words -/
def nrT : List (Nat × Nat × Nat × Nat × Nat × Nat) := [(13, 8, 11, 1022, 1023, 1001), (11, 9, 8, 1030, 1238, 1008), (11, 15, 10, 1032, 1033, 1002), (10, 9, 9, 1038, 1040, 1003), (9, 9, 3, 1045, 5039, 1021), (11, 22, 6, 1144, 1145, 1004), (11, 31, 1, 1165, 1166, 1005), (11, 38, 4, 1178, 1179, 1006), (4, 9, 0, 1184, 1186, 1007), (8, 9, 7, 2003, 2004, 1009), (7, 9, 3, 2009, 5039, 1021), (8, 18, 5, 2020, 2021, 1010), (8, 25, 2, 2054, 2056, 1011), (11, 216, 3, 5038, 5039, 1021), (13, 88, 12, 5171, 5172, 1012)]
def nres (oc i : Nat) : Option Nat := (nrT.find? (fun q => q.1 == oc && q.2.1 == i)).map (fun q => q.2.2.1)
/-- classes of arrays of references: 0 Machine, 1 Message, 2 Entry, 3 Choice, 4 Act -/
def arT : List (Nat × Nat × Nat × Nat × Nat) := [(11, 9, 0, 1030, 1031), (10, 9, 1, 1038, 1039), (9, 9, 2, 1045, 1046), (4, 9, 4, 1184, 1185), (7, 9, 2, 2009, 1046), (8, 25, 3, 2054, 2055), (11, 216, 2, 5038, 1046)]
def ares (oc i : Nat) : Option Nat := (arT.find? (fun q => q.1 == oc && q.2.1 == i)).map (fun q => q.2.2.1)
def acl (t : Nat) : Nat := [8, 9, 3, 2, 0].getD t 99
def lrT : List (Nat × Nat × Value × Nat) := [(6, 19, .float 1092616192, 2187), (11, 94, .float 1148846080, 3207), (11, 101, .float 1092616192, 3215), (11, 102, .float 1120403456, 3216), (14, 265, .int 1431655765, 4073), (14, 266, .int 858993459, 4074), (14, 267, .int 252645135, 4075), (11, 298, .float 3212836864, 5151), (12, 13, .float 1092616192, 5177), (12, 190, .float 1148846080, 6139), (12, 191, .float 1120403456, 6144), (12, 270, .float 3212836864, 7060)]
def lres (oc i : Nat) : Option Value := (lrT.find? (fun q => q.1 == oc && q.2.1 == i)).map (fun q => q.2.2.1)
def xrT : List (Nat × Nat × Nat) := [(51, 55, 1), (182, 186, 3), (127, 131, 2)]
def strT : List Nat := [53, 340, 84, 348, 352, 129, 170, 176, 184, 196, 208, 235, 342, 251, 263, 276, 317]
def xres (oc i j k : Nat) : Option Nat := if oc == 11 && strT.contains k then (xrT.find? (fun q => q.1 == i && q.2.1 == j)).map (fun q => q.2.2) else none
def exN (e : Nat) : String := match e with
  | 1 => "java/lang/IllegalArgumentException"
  | 2 => "java/lang/IllegalStateException"
  | _ => "java/lang/IndexOutOfBoundsException"
def hxT : List (Nat × Nat) := [(13, 1), (19, 3), (40, 2)]
/-- the handler of exception e at pc, of a method -/
def hnd (y : MI) (pc e : Nat) : Option Nat := ((mHH y).find? (fun q => decide (q.1 ≤ pc) && decide (pc < q.2.1) && ((hxT.find? (fun z => z.1 == q.2.2.2)).map (fun z => z.2) == some e))).map (fun q => q.2.2.1)
/-- calls by own class and pool number: kind (0 virtual, 1 static, 2 constructor, 3 of a nest mate, 4 of Object, 5 max, 6 min), the method, places of words -/
def crT_0 : List (Nat × Nat × Nat × MI × Nat × List Nat) := [(0, 3, 4, mX0_init, 1190, []), (0, 31, 0, mX0_isAnsweredAhead, 3034, [3029, 1007, 3027, 3028]), (1, 3, 4, mX0_init, 1170, []), (1, 29, 0, mX2_nextBallot, 5105, [5108, 1011, 5106, 5107]), (1, 35, 0, mX2_startProposal, 5109, [5112, 1011, 5110, 5111]), (1, 47, 0, mX10_send, 4153, [4057, 1002, 4055, 4056]), (1, 62, 0, mX1_hearPrepare, 4149, [4152, 1005, 4151, 16]), (1, 66, 0, mX1_hearPromised, 4154, [4157, 1005, 4156, 17]), (1, 70, 0, mX1_hearAccept, 4171, [4174, 1005, 4173, 19]), (1, 73, 0, mX1_hearAccepted, 4175, [4178, 1005, 4177, 20]), (1, 102, 0, mX2_learnTold, 4158, [4161, 1011, 4159, 4160]), (1, 106, 0, mX10_areMost, 4162, [4069, 1002, 4067, 4068])]
def crT_1 : List (Nat × Nat × Nat × MI × Nat × List Nat) := [(1, 110, 0, mX1_sendAccepts, 4163, [4166, 1005, 4165, 18]), (1, 121, 0, mX2_takeOn, 4167, [4170, 1011, 4168, 4169]), (2, 3, 4, mX0_init, 2060, []), (2, 24, 0, mX2_dropProposal, 2208, [2211, 1011, 2209, 2210]), (3, 1, 4, mX0_init, 5043, []), (4, 3, 4, mX0_init, 1183, []), (4, 20, 3, mX0_init, 1187, [1189, 1007, 1188]), (4, 41, 0, mX0_start, 5022, [5025, 1007, 5023, 5024]), (4, 57, 0, mX7_numberOf, 4183, [4186, 1009, 4184, 4185]), (4, 66, 1, mX4_canFeed, 3019, [3021, 1006, 3020]), (4, 73, 0, mX4_writesDueAhead, 3022, [3025, 1006, 3024, 1]), (4, 80, 0, mX0_fitsBetween, 3030, [3033, 1007, 3031, 3032])]
def crT_2 : List (Nat × Nat × Nat × MI × Nat × List Nat) := [(4, 84, 0, mX4_writesAheadOf, 3035, [3038, 1006, 3037, 2]), (4, 88, 0, mX0_isAnsweredAhead, 3026, [3029, 1007, 3027, 3028]), (5, 3, 4, mX0_init, 2025, []), (5, 30, 0, mX5_hasAnswered, 4137, [4140, 1010, 4139, 14]), (5, 34, 0, mX5_answeredSince, 4141, [4144, 1010, 4143, 15]), (6, 3, 4, mX0_init, 1149, []), (6, 50, 0, mX10_send, 4054, [4057, 1002, 4055, 4056]), (6, 66, 0, mX7_termAt, 4093, [4049, 1009, 4047, 4048]), (6, 83, 0, mX9_addEntriesBehind, 4231, [4234, 1003, 4232, 4233]), (6, 102, 0, mX8_learnTerm, 4030, [4033, 1008, 4031, 4032]), (6, 109, 0, mX6_hearAsk, 4034, [4037, 1004, 4036, 6]), (6, 113, 0, mX6_hearVote, 4062, [4065, 1004, 4064, 7])]
def crT_3 : List (Nat × Nat × Nat × MI × Nat × List Nat) := [(6, 116, 0, mX6_hearAppend, 4084, [4087, 1004, 4086, 8]), (6, 119, 0, mX6_hearAck, 4108, [4111, 1004, 4110, 11]), (6, 122, 0, mX8_canVoteFor, 4038, [4041, 1008, 4039, 4040]), (6, 133, 0, mX10_areMost, 4066, [4069, 1002, 4067, 4068]), (6, 137, 0, mX5_start, 4080, [4083, 1010, 4081, 4082]), (6, 140, 0, mX6_sendAck, 4088, [4091, 1004, 4090, 9]), (6, 144, 0, mX8_follow, 4092, [2203, 1008, 2201, 2202]), (6, 147, 6, mX0_init, 4094, []), (6, 153, 0, mX6_putEntries, 4095, [4098, 1004, 4097, 10]), (6, 157, 5, mX0_init, 4104, []), (6, 160, 0, mX8_promise, 4107, [3179, 1008, 3177, 3178]), (6, 171, 0, mX7_cutBehind, 4099, [2199, 1009, 2197, 2198])]
def crT_4 : List (Nat × Nat × Nat × MI × Nat × List Nat) := [(6, 174, 0, mX7_put, 4100, [4103, 1009, 4101, 4102]), (6, 178, 0, mX5_learnSame, 4112, [4115, 1010, 4113, 4114]), (6, 182, 0, mX6_commitWhatMostKnow, 4116, [4119, 1004, 4118, 12]), (6, 186, 0, mX5_learnClock, 4125, [4128, 1010, 4126, 4127]), (6, 189, 0, mX6_renewLease, 4129, [4132, 1004, 4131, 13]), (6, 192, 0, mX5_knowing, 4120, [4123, 1010, 4121, 4122]), (6, 195, 0, mX10_most, 4124, [4079, 1002, 4077, 4078]), (6, 205, 0, mX5_clockOf, 4133, [4136, 1010, 4134, 4135]), (7, 3, 4, mX0_init, 2008, []), (7, 21, 0, mX7_at, 4050, [4053, 1009, 4051, 4052]), (7, 34, 0, mX7_isOutdone, 5030, [5033, 1009, 5032, 21]), (7, 38, 6, mX0_init, 3054, [])]
def crT_5 : List (Nat × Nat × Nat × MI × Nat × List Nat) := [(7, 47, 0, mX3_isLike, 3055, [3058, 1021, 3056, 3057]), (7, 51, 0, mX3_outdoes, 5034, [5037, 1021, 5035, 5036]), (8, 3, 4, mX0_init, 2002, []), (8, 11, 3, mX7_init, 2005, [2007, 1009, 2006]), (8, 20, 3, mX5_init, 2022, [2024, 1010, 2023]), (8, 35, 3, mX2_init, 2057, [2059, 1011, 2058]), (8, 65, 0, mX7_cutBehind, 2196, [2199, 1009, 2197, 2198]), (8, 69, 0, mX8_follow, 2200, [2203, 1008, 2201, 2202]), (8, 72, 0, mX2_renew, 2204, [2207, 1011, 2205, 2206]), (8, 75, 0, mX2_dropProposal, 3171, [2211, 1011, 2209, 2210]), (8, 78, 0, mX8_promise, 3176, [3179, 1008, 3177, 3178]), (8, 91, 0, mX7_termAt, 4046, [4049, 1009, 4047, 4048])]
def crT_6 : List (Nat × Nat × Nat × MI × Nat × List Nat) := [(8, 100, 0, mX8_hasPromised, 4042, [4045, 1008, 4043, 4044]), (8, 114, 6, mX0_init, 3047, []), (8, 120, 0, mX7_isLikeUpTo, 3050, [3053, 1009, 3051, 3052]), (9, 3, 4, mX0_init, 1044, []), (9, 59, 0, mX7_at, 4235, [4053, 1009, 4051, 4052]), (10, 3, 4, mX0_init, 1037, []), (10, 21, 3, mX9_init, 1041, [1043, 1003, 1042]), (10, 39, 1, mJ6_bitCount_0f7a4, 4070, [4072, 1019, 4071]), (10, 45, 0, mX10_most, 4076, [4079, 1002, 4077, 4078]), (10, 49, 0, mX9_start, 4058, [4061, 1003, 4059, 4060]), (10, 53, 0, mX10_isCut, 3192, [3195, 1002, 3193, 3194]), (11, 1, 4, mX0_init, 1027, [])]
def crT_7 : List (Nat × Nat × Nat × MI × Nat × List Nat) := [(11, 17, 2, mX10_init, 1034, [1036, 1002, 1035]), (11, 24, 2, mX6_init, 1146, [1148, 1004, 1147]), (11, 33, 2, mX1_init, 1167, [1169, 1005, 1168]), (11, 40, 2, mX4_init, 1180, [1182, 1006, 1181]), (11, 45, 2, mX8_init, 1239, [2001, 1008, 2000]), (11, 48, 0, mX11_renew, 2175, [2178, 1001, 2177, 0]), (11, 62, 0, mX11_needMachine, 3143, [3146, 1001, 3145, 4]), (11, 66, 0, mX4_goOn, 3163, [3166, 1006, 3164, 3165]), (11, 73, 0, mX8_crash, 3167, [3170, 1008, 3168, 3169]), (11, 80, 0, mX8_rise, 3172, [3175, 1008, 3173, 3174]), (11, 86, 0, mX10_switchCut, 3188, [3191, 1002, 3189, 3190]), (11, 90, 1, mX11_needRange, 3203, [3205, 1001, 3204])]
def crT_8 : List (Nat × Nat × Nat × MI × Nat × List Nat) := [(11, 109, 0, mX8_letPass, 3224, [3227, 1008, 3225, 3226]), (11, 112, 0, mX11_needMessage, 3236, [3239, 1001, 3238, 5]), (11, 124, 0, mX10_isCut, 4005, [3195, 1002, 3193, 3194]), (11, 132, 0, mX10_takeOut, 4022, [4025, 1002, 4023, 4024]), (11, 141, 0, mX6_hear, 4026, [4029, 1004, 4027, 4028]), (11, 145, 0, mX1_hear, 4145, [4148, 1005, 4146, 4147]), (11, 146, 0, mX4_answerWrites, 4179, [4182, 1006, 4180, 4181]), (11, 156, 0, mX10_send, 4201, [4057, 1002, 4055, 4056]), (11, 160, 0, mX9_copyRest, 4202, [4205, 1003, 4203, 4204]), (11, 166, 0, mX8_hasPromised, 4213, [4045, 1008, 4043, 4044]), (11, 172, 0, mX6_letStand, 4215, [4218, 1004, 4216, 4217]), (11, 178, 0, mX6_letBeat, 4227, [4230, 1004, 4228, 4229])]
def crT_9 : List (Nat × Nat × Nat × MI × Nat × List Nat) := [(11, 187, 0, mX4_findWrite, 5004, [5007, 1006, 5005, 5006]), (11, 202, 0, mX7_isFull, 5009, [5012, 1009, 5010, 5011]), (11, 207, 0, mX4_isFull, 5013, [5016, 1006, 5014, 5015]), (11, 210, 0, mX4_addWrite, 5018, [5021, 1006, 5019, 5020]), (11, 213, 0, mX7_hasSerial, 5026, [5029, 1009, 5027, 5028]), (11, 218, 2, mX3_init, 5040, [5042, 1021, 5041]), (11, 221, 0, mX7_put, 5066, [4103, 1009, 4101, 4102]), (11, 225, 0, mX7_numberOf, 5067, [4186, 1009, 4184, 4185]), (11, 229, 0, mX8_holdsLease, 3003, [3006, 1008, 3004, 3005]), (11, 232, 0, mX8_agreedInItsTerm, 5075, [5078, 1008, 5076, 5077]), (11, 240, 0, mX7_valueUpTo, 5080, [5083, 1009, 5081, 5082]), (11, 244, 0, mX4_addRead, 5084, [5087, 1006, 5085, 5086])]
def crT_10 : List (Nat × Nat × Nat × MI × Nat × List Nat) := [(11, 247, 0, mX11_needChoice, 5095, [5098, 1001, 5097, 22]), (11, 253, 0, mX1_letPropose, 5101, [5104, 1005, 5102, 5103]), (11, 272, 0, mX7_at, 5135, [4053, 1009, 4051, 4052]), (11, 314, 0, mX4_at, 5166, [5169, 1006, 5167, 5168]), (11, 328, 0, mX4_hasOneOrder, 3015, [3018, 1006, 3016, 3017]), (11, 331, 0, mX8_agreesWith, 3043, [3046, 1008, 3044, 3045]), (11, 335, 0, mX10_renew, 2179, [2182, 1002, 2180, 2181]), (11, 336, 0, mX6_renew, 2183, [2186, 1004, 2184, 2185]), (11, 338, 0, mX4_renew, 2188, [2191, 1006, 2189, 2190]), (11, 339, 0, mX8_renew, 2192, [2195, 1008, 2193, 2194]), (11, 350, 0, mX10_at, 4000, [4003, 1002, 4001, 4002]), (12, 1, 4, mX0_init, 5176, [])]
def crT_11 : List (Nat × Nat × Nat × MI × Nat × List Nat) := [(12, 147, 0, mX12_begins, 5178, [5181, 1012, 5180, 23]), (12, 154, 1, mX12_in, 6116, [6118, 1012, 6117]), (12, 173, 0, mX12_goes, 6104, [6107, 1012, 6106, 24]), (12, 177, 0, mX12_isAgreedAt, 6127, [6130, 1012, 6129, 28]), (12, 181, 0, mX12_isMachine, 6112, [6115, 1012, 6114, 25]), (12, 184, 0, mX12_follows, 6119, [6122, 1012, 6121, 26]), (12, 187, 0, mX12_ends, 6123, [6126, 1012, 6125, 27]), (12, 195, 0, mX12_isMessage, 6153, [6156, 1012, 6155, 29]), (12, 198, 0, mX12_leaves, 6157, [6160, 1012, 6159, 30]), (12, 201, 0, mX12_asked, 6169, [6172, 1012, 6171, 31]), (12, 204, 0, mX12_voted, 6185, [6188, 1012, 6187, 35]), (12, 207, 0, mX12_appended, 6196, [6199, 1012, 6198, 37])]
def crT_12 : List (Nat × Nat × Nat × MI × Nat × List Nat) := [(12, 211, 0, mX12_acknowledged, 6204, [6207, 1012, 6206, 39]), (12, 214, 0, mX12_prepared, 6216, [6219, 1012, 6218, 42]), (12, 217, 0, mX12_promised, 6220, [6223, 1012, 6222, 43]), (12, 220, 0, mX12_accepted, 6224, [6227, 1012, 6226, 44]), (12, 223, 0, mX12_counts, 6228, [6231, 1012, 6230, 45]), (12, 226, 0, mX12_promises, 6177, [6180, 1012, 6179, 33]), (12, 229, 0, mX12_sends, 6181, [6184, 1012, 6183, 34]), (12, 233, 0, mX12_termAt, 6173, [6176, 1012, 6175, 32]), (12, 237, 1, mX12_bits, 6189, [6191, 1012, 6190]), (12, 241, 0, mX12_most, 6192, [6195, 1012, 6194, 36]), (12, 245, 0, mX12_acks, 6200, [6203, 1012, 6202, 38]), (12, 249, 0, mX12_rankedSame, 6208, [6211, 1012, 6210, 40])]
def crT_13 : List (Nat × Nat × Nat × MI × Nat × List Nat) := [(12, 252, 0, mX12_leases, 6212, [6215, 1012, 6214, 41]), (12, 254, 0, mX12_actOf, 7004, [7007, 1012, 7006, 46]), (12, 257, 0, mX12_acts, 7008, [7011, 1012, 7010, 47]), (12, 260, 0, mX12_entryOf, 7012, [7015, 1012, 7014, 48]), (12, 264, 0, mX12_holdsLease, 7020, [7023, 1012, 7022, 49]), (12, 267, 0, mX12_valueOf, 7024, [7027, 1012, 7026, 50]), (12, 271, 0, mX12_mayCome, 7081, [7084, 1012, 7083, 51]), (12, 275, 0, mX12_areAlike, 7089, [7092, 1012, 7091, 52]), (13, 7, 0, mX11_begin, 3063, [3066, 1001, 3064, 3065]), (13, 15, 0, mX11_toggle, 3139, [3142, 1001, 3140, 3141]), (13, 21, 0, mX11_cut, 3183, [3186, 1001, 3184, 3185]), (13, 25, 0, mX11_rate, 3199, [3202, 1001, 3200, 3201])]
def crT_14 : List (Nat × Nat × Nat × MI × Nat × List Nat) := [(13, 29, 0, mX11_spans, 3211, [3214, 1001, 3212, 3213]), (13, 33, 0, mX11_pass, 3220, [3223, 1001, 3221, 3222]), (13, 37, 0, mX11_deliver, 3232, [3235, 1001, 3233, 3234]), (13, 42, 0, mX11_lose, 4190, [4193, 1001, 4191, 4192]), (13, 45, 0, mX11_twice, 4197, [4200, 1001, 4198, 4199]), (13, 48, 0, mX11_stand, 4209, [4212, 1001, 4210, 4211]), (13, 51, 0, mX11_beat, 4222, [4225, 1001, 4223, 4224]), (13, 54, 0, mX11_request, 4239, [5002, 1001, 5000, 5001]), (13, 58, 0, mX11_read, 5071, [5074, 1001, 5072, 5073]), (13, 61, 0, mX11_propose, 5091, [5094, 1001, 5092, 5093]), (13, 65, 0, mX11_message, 5116, [5119, 1001, 5117, 5118]), (13, 69, 0, mX11_of, 5124, [5127, 1001, 5125, 5126])]
def crT_15 : List (Nat × Nat × Nat × MI × Nat × List Nat) := [(13, 72, 0, mX11_entry, 5131, [5134, 1001, 5132, 5133]), (13, 75, 0, mX11_clock, 5140, [5143, 1001, 5141, 5142]), (13, 78, 0, mX11_lease, 5147, [5150, 1001, 5148, 5149]), (13, 81, 0, mX11_decision, 5155, [5158, 1001, 5156, 5157]), (13, 84, 0, mX11_act, 5162, [5165, 1001, 5163, 5164]), (13, 87, 2, mX11_init, 1024, [1026, 1001, 1025]), (13, 90, 2, mX12_init, 5173, [5175, 1012, 5174]), (13, 91, 1, mL_begin, 3059, [3061, 1000, 3060]), (13, 96, 0, mX12_begin, 6100, [6103, 1012, 6101, 6102]), (13, 97, 0, mX12_thrown, 6096, [6099, 1012, 6097, 6098]), (13, 101, 1, mL_toggle, 3135, [3137, 1000, 3136]), (13, 103, 0, mX12_toggle, 6108, [6111, 1012, 6109, 6110])]
def crT_16 : List (Nat × Nat × Nat × MI × Nat × List Nat) := [(13, 104, 1, mL_cut, 3180, [3182, 1000, 3181]), (13, 107, 0, mX12_cut, 6131, [6134, 1012, 6132, 6133]), (13, 108, 1, mL_rate, 3196, [3198, 1000, 3197]), (13, 111, 0, mX12_rate, 6135, [6138, 1012, 6136, 6137]), (13, 112, 1, mL_spans, 3208, [3210, 1000, 3209]), (13, 115, 0, mX12_spans, 6140, [6143, 1012, 6141, 6142]), (13, 116, 1, mL_pass, 3217, [3219, 1000, 3218]), (13, 119, 0, mX12_pass, 6145, [6148, 1012, 6146, 6147]), (13, 120, 1, mL_deliver, 3228, [3230, 1000, 3229]), (13, 122, 0, mX12_deliver, 6165, [6168, 1012, 6166, 6167]), (13, 123, 1, mL_lose, 4187, [4189, 1000, 4188]), (13, 125, 0, mX12_lose, 6149, [6152, 1012, 6150, 6151])]
def crT_17 : List (Nat × Nat × Nat × MI × Nat × List Nat) := [(13, 126, 1, mL_twice, 4194, [4196, 1000, 4195]), (13, 128, 0, mX12_twice, 6161, [6164, 1012, 6162, 6163]), (13, 129, 1, mL_stand, 4206, [4208, 1000, 4207]), (13, 131, 0, mX12_stand, 6232, [6235, 1012, 6233, 6234]), (13, 132, 1, mL_beat, 4219, [4221, 1000, 4220]), (13, 134, 0, mX12_beat, 6236, [6239, 1012, 6237, 6238]), (13, 135, 1, mL_request, 4236, [4238, 1000, 4237]), (13, 138, 0, mX12_request, 7000, [7003, 1012, 7001, 7002]), (13, 139, 1, mL_read, 5068, [5070, 1000, 5069]), (13, 141, 0, mX12_read, 7016, [7019, 1012, 7017, 7018]), (13, 142, 1, mL_propose, 5088, [5090, 1000, 5089]), (13, 145, 0, mX12_propose, 7028, [7031, 1012, 7029, 7030])]
def crT_18 : List (Nat × Nat × Nat × MI × Nat × List Nat) := [(13, 146, 0, mX11_steps, 2231, [2234, 1001, 2232, 2233]), (13, 149, 0, mX12_steps, 7032, [7035, 1012, 7033, 7034]), (13, 150, 0, mX11_messages, 2235, [2238, 1001, 2236, 2237]), (13, 153, 0, mX12_messages, 7036, [7039, 1012, 7037, 7038]), (13, 154, 1, mL_message, 5113, [5115, 1000, 5114]), (13, 156, 0, mX12_message, 7040, [7043, 1012, 7041, 7042]), (13, 157, 1, mL_of, 5121, [5123, 1000, 5122]), (13, 159, 0, mX12_of, 7044, [7047, 1012, 7045, 7046]), (13, 160, 1, mL_entry, 5128, [5130, 1000, 5129]), (13, 162, 0, mX12_entry, 7048, [7051, 1012, 7049, 7050]), (13, 163, 1, mL_clock, 5137, [5139, 1000, 5138]), (13, 165, 0, mX12_clock, 7052, [7055, 1012, 7053, 7054])]
def crT_19 : List (Nat × Nat × Nat × MI × Nat × List Nat) := [(13, 166, 1, mL_lease, 5144, [5146, 1000, 5145]), (13, 168, 0, mX12_lease, 7056, [7059, 1012, 7057, 7058]), (13, 169, 0, mX11_leases, 2239, [3002, 1001, 3000, 3001]), (13, 172, 0, mX12_leases_, 7061, [7064, 1012, 7062, 7063]), (13, 173, 1, mL_decision, 5152, [5154, 1000, 5153]), (13, 175, 0, mX12_decision, 7065, [7068, 1012, 7066, 7067]), (13, 176, 0, mX11_acts, 3007, [3010, 1001, 3008, 3009]), (13, 179, 0, mX12_acts_, 7069, [7072, 1012, 7070, 7071]), (13, 180, 1, mL_act, 5159, [5161, 1000, 5160]), (13, 182, 0, mX12_act, 7073, [7076, 1012, 7074, 7075]), (13, 183, 0, mX11_isInOrder, 3011, [3014, 1001, 3012, 3013]), (13, 187, 0, mX12_isInOrder, 7077, [7080, 1012, 7078, 7079])]
def crT_20 : List (Nat × Nat × Nat × MI × Nat × List Nat) := [(13, 188, 0, mX11_isAgreed, 3039, [3042, 1001, 3040, 3041]), (13, 191, 0, mX12_isAgreed, 7085, [7088, 1012, 7086, 7087])]
def crT : List (Nat × Nat × Nat × MI × Nat × List Nat) := crT_0 ++ (crT_1 ++ (crT_2 ++ (crT_3 ++ (crT_4 ++ (crT_5 ++ (crT_6 ++ (crT_7 ++ (crT_8 ++ (crT_9 ++ (crT_10 ++ (crT_11 ++ (crT_12 ++ (crT_13 ++ (crT_14 ++ (crT_15 ++ (crT_16 ++ (crT_17 ++ (crT_18 ++ (crT_19 ++ (crT_20))))))))))))))))))))
def cres (oc i : Nat) : Option (Nat × MI) := (crT.find? (fun q => q.1 == oc && q.2.1 == i)).map (fun q => (q.2.2.1, q.2.2.2.1))
/-! ===== what one instruction does ===== -/
abbrev Lo : Type := List (Option Value)
/-- an end: an answer, or an exception by its number -/
abbrev Out : Type := Option Value ⊕ Nat
abbrev SR : Type := (Nat × Lo × List Value × HP) ⊕ ((MI × List Value × List Value) ⊕ (Out × HP))
def go (pc : Nat) (ls : Lo) (st : List Value) (h : HP) : Option SR := some (.inl (pc, ls, st, h))
def gL (b : Bool) (r : Option SR) : Option SR := if b = true then r else none
def jmp (pc : Nat) (off : Int) : Nat := ((pc : Int) + off).toNat
def jok (pc : Nat) (off : Int) : Bool := decide (0 ≤ (pc : Int) + off)
def nn32 (r : UInt32) : Bool := decide (r &&& 0x7fffffff ≤ 0x7f800000)
def nn64 (r : UInt64) : Bool := decide (r &&& 0x7fffffffffffffff ≤ 0x7ff0000000000000)
def isZ (x : Int32) : Bool := decide (x = 0) || decide (x = 1)
def inA (h : HP) (a : Nat) (i : Int32) : Bool := decide (0 ≤ i) && decide (i.toNatClampNeg < hL h a)
def c1 (v : Value) : Bool := match v with
  | .long _ => false
  | .double _ => false
  | _ => true
def ldI (ls : Lo) (k pc len w : Nat) (st : List Value) (h : HP) : Option SR := gL (len == w) (match ls[k]? with
  | some (some (.int x)) => go (pc + w) ls (.int x :: st) h
  | _ => none)
def ldF (ls : Lo) (k pc len w : Nat) (st : List Value) (h : HP) : Option SR := gL (len == w) (match ls[k]? with
  | some (some (.float x)) => go (pc + w) ls (.float x :: st) h
  | _ => none)
def ldA (ls : Lo) (k pc len w : Nat) (st : List Value) (h : HP) : Option SR := gL (len == w) (match ls[k]? with
  | some (some (.ref x)) => go (pc + w) ls (.ref x :: st) h
  | _ => none)
def stI (ls : Lo) (k pc len w : Nat) (st : List Value) (h : HP) : Option SR := gL (len == w && decide (k < ls.length)) (match st with
  | .int x :: r => go (pc + w) (ls.set k (some (.int x))) r h
  | _ => none)
def stF (ls : Lo) (k pc len w : Nat) (st : List Value) (h : HP) : Option SR := gL (len == w && decide (k < ls.length)) (match st with
  | .float x :: r => go (pc + w) (ls.set k (some (.float x))) r h
  | _ => none)
def stA (ls : Lo) (k pc len w : Nat) (st : List Value) (h : HP) : Option SR := gL (len == w && decide (k < ls.length)) (match st with
  | .ref x :: r => go (pc + w) (ls.set k (some (.ref x))) r h
  | _ => none)
def ii2 (f : Int32 → Int32 → Int32) (pc len : Nat) (ls : Lo) (st : List Value) (h : HP) : Option SR := gL (len == 1) (match st with
  | .int y :: .int x :: r => go (pc + 1) ls (.int (f x y) :: r) h
  | _ => none)
def ff2 (f : UInt32 → UInt32 → UInt32) (pc len : Nat) (ls : Lo) (st : List Value) (h : HP) : Option SR := gL (len == 1) (match st with
  | .float y :: .float x :: r => gL (nn32 (f x y)) (go (pc + 1) ls (.float (f x y) :: r) h)
  | _ => none)
def br (c : Prop) [Decidable c] (pc : Nat) (off : Int) (ls : Lo) (st : List Value) (h : HP) : Option SR := gL (jok pc off) (if c then go (jmp pc off) ls st h else go (pc + 3) ls st h)
def fvl (h : HP) (ci k a : Nat) : Option Value := match ftyp ci k with
  | 0 => some (.int (hI h (100 * ci + k) a))
  | 1 => some (.float (hF h (100 * ci + k) a))
  | 2 => some (.ref (hR h (100 * ci + k) a))
  | 3 => some (.int (hI h (100 * ci + k) a))
  | _ => none
def fsv (h : HP) (ci k a : Nat) (v : Value) : Option HP := match ftyp ci k, v with
  | 0, .int x => some (sI h (100 * ci + k) a x)
  | 3, .int x => if isZ x = true then some (sI h (100 * ci + k) a x) else none
  | 1, .float x => some (sF h (100 * ci + k) a x)
  | 2, .ref x => some (sR h (100 * ci + k) a x)
  | _, _ => none
/-- a call: the arguments off the stack, the first one first; the stack below -/
def cll (y : MI) (k : Nat) (st : List Value) : Option SR := gL (decide (k ≤ st.length) && decide (st.length ≤ k + 4) && (st.all c1)) (some (.inr (.inl (y, (st.take k).reverse, st.drop k))))
def rok (t : Option FieldType) (v : Option Value) : Bool := match t, v with
  | some .int, some (.int _) => true
  | some .boolean, some (.int x) => isZ x
  | some .float, some (.float _) => true
  | some (.object _), some (.ref _) => true
  | none, none => true
  | _, _ => false
/-- an exception made and thrown: new, dup, its text, its constructor, athrow -/
def thw (y : MI) (pc j : Nat) : Option Nat := match decode (mCode y) (pc + 3) with
  | .ok (.dup, 1) => (match decode (mCode y) (pc + 4) with
    | .ok (.ldc k, 2) => (match decode (mCode y) (pc + 6), decode (mCode y) (pc + 9) with
      | .ok (.invokespecial q, 3), .ok (.athrow, 1) => xres (mOwn y) j q k
      | _, _ => none)
    | .ok (.ldc_w k, 3) => (match decode (mCode y) (pc + 7), decode (mCode y) (pc + 10) with
      | .ok (.invokespecial q, 3), .ok (.athrow, 1) => xres (mOwn y) j q k
      | _, _ => none)
    | _ => none)
  | _ => none
theorem thw_spec {y : MI} {pc j x : Nat} (h : thw y pc j = some x) : decode (mCode y) (pc + 3) = .ok (.dup, 1) ∧ ∃ k q, xres (mOwn y) j q k = some x ∧ ((decode (mCode y) (pc + 4) = .ok (.ldc k, 2) ∧ decode (mCode y) (pc + 6) = .ok (.invokespecial q, 3) ∧ decode (mCode y) (pc + 9) = .ok (.athrow, 1)) ∨ (decode (mCode y) (pc + 4) = .ok (.ldc_w k, 3) ∧ decode (mCode y) (pc + 7) = .ok (.invokespecial q, 3) ∧ decode (mCode y) (pc + 10) = .ok (.athrow, 1))) := by
  unfold thw at h
  split at h
  · rename_i d3
    refine ⟨d3, ?_⟩
    split at h
    · rename_i k d4
      split at h
      · rename_i q d6 d9
        exact ⟨k, q, h, Or.inl ⟨d4, d6, d9⟩⟩
      · cases h
    · rename_i k d4
      split at h
      · rename_i q d6 d9
        exact ⟨k, q, h, Or.inr ⟨d4, d6, d9⟩⟩
      · cases h
    · cases h
  · cases h
def stpR (y : MI) (i : Instr) (len pc : Nat) (ls : Lo) (st : List Value) (h : HP) : Option SR := match i with
  | .iconst n => gL (len == 1) (go (pc + 1) ls (.int (Int32.ofInt n) :: st) h)
  | .bipush n => gL (len == 2) (go (pc + 2) ls (.int (Int8.ofInt n).toInt32 :: st) h)
  | .sipush n => gL (len == 3) (go (pc + 3) ls (.int (Int16.ofInt n).toInt32 :: st) h)
  | .lconst n => gL (len == 1) (go (pc + 1) ls (.long (Int64.ofNat (n : Nat)) :: st) h)
  | .fconst n => gL (len == 1) (if n = 0 then go (pc + 1) ls (.float FP.fconst0 :: st) h else if n = 1 then go (pc + 1) ls (.float FP.fconst1 :: st) h else none)
  | .aconst_null => gL (len == 1) (go (pc + 1) ls (.ref 0 :: st) h)
  | .iload k => ldI ls k pc len 2 st h
  | .iload_n k => ldI ls k pc len 1 st h
  | .fload k => ldF ls k pc len 2 st h
  | .fload_n k => ldF ls k pc len 1 st h
  | .aload k => ldA ls k pc len 2 st h
  | .aload_n k => ldA ls k pc len 1 st h
  | .istore k => stI ls k pc len 2 st h
  | .istore_n k => stI ls k pc len 1 st h
  | .fstore k => stF ls k pc len 2 st h
  | .fstore_n k => stF ls k pc len 1 st h
  | .astore k => stA ls k pc len 2 st h
  | .astore_n k => stA ls k pc len 1 st h
  | .iinc k n => gL (len == 3) (match ls[k]? with
    | some (some (.int x)) => go (pc + 3) (ls.set k (some (.int (x + Int32.ofInt n)))) st h
    | _ => none)
  | .iadd => ii2 (fun x y => x + y) pc len ls st h
  | .isub => ii2 (fun x y => x - y) pc len ls st h
  | .imul => ii2 (fun x y => x * y) pc len ls st h
  | .iand => ii2 (fun x y => x &&& y) pc len ls st h
  | .ior => ii2 (fun x y => x ||| y) pc len ls st h
  | .ixor => ii2 (fun x y => x ^^^ y) pc len ls st h
  | .ishl => ii2 (fun x y => x <<< (y &&& 31)) pc len ls st h
  | .ishr => ii2 (fun x y => x >>> (y &&& 31)) pc len ls st h
  | .iushr => ii2 (fun x y => (x.toUInt32 >>> (y.toUInt32 &&& Int32.toUInt32 31)).toInt32) pc len ls st h
  | .idiv => gL (len == 1) (match st with
    | .int y :: .int x :: r => if y = 0 then none else go (pc + 1) ls (.int (x / y) :: r) h
    | _ => none)
  | .fadd => ff2 FP.fadd pc len ls st h
  | .fsub => ff2 FP.fsub pc len ls st h
  | .fmul => ff2 FP.fmul pc len ls st h
  | .fdiv => ff2 FP.fdiv pc len ls st h
  | .fcmp op => gL (len == 1) (match st with
    | .float y :: .float x :: r => go (pc + 1) ls (.int (Op.cmpValue (FP.fcmp x y) op) :: r) h
    | _ => none)
  | .dcmp op => gL (len == 1) (match st with
    | .double y :: .double x :: r => go (pc + 1) ls (.int (Op.cmpValue (FP.dcmp x y) op) :: r) h
    | _ => none)
  | .lcmp => gL (len == 1) (match st with
    | .long y :: .long x :: r => go (pc + 1) ls (.int (lg_cmp x y) :: r) h
    | _ => none)
  | .i2l => gL (len == 1) (match st with
    | .int x :: r => go (pc + 1) ls (.long x.toInt64 :: r) h
    | _ => none)
  | .i2f => gL (len == 1) (match st with
    | .int x :: r => go (pc + 1) ls (.float (FP.i2f x) :: r) h
    | _ => none)
  | .f2d => gL (len == 1) (match st with
    | .float x :: r => gL (nn64 (FP.f2d x)) (go (pc + 1) ls (.double (FP.f2d x) :: r) h)
    | _ => none)
  | .dup => gL (len == 1) (match st with
    | v :: r => gL (c1 v) (go (pc + 1) ls (v :: v :: r) h)
    | _ => none)
  | .dup2 => gL (len == 1) (match st with
    | v :: w :: r => gL (c1 v && c1 w) (go (pc + 1) ls (v :: w :: v :: w :: r) h)
    | _ => none)
  | .pop => gL (len == 1) (match st with
    | v :: r => gL (c1 v) (go (pc + 1) ls r h)
    | _ => none)
  | .ifCond c off => gL (len == 3) (match st with
    | .int x :: r => (match c with
      | .eq => br (x = 0) pc off ls r h
      | .ne => br (¬ x = 0) pc off ls r h
      | .lt => br (x < 0) pc off ls r h
      | .ge => br (0 ≤ x) pc off ls r h
      | .gt => br (0 < x) pc off ls r h
      | .le => br (x ≤ 0) pc off ls r h)
    | _ => none)
  | .if_icmp c off => gL (len == 3) (match st with
    | .int y :: .int x :: r => (match c with
      | .eq => br (x = y) pc off ls r h
      | .ne => br (¬ x = y) pc off ls r h
      | .lt => br (x < y) pc off ls r h
      | .ge => br (y ≤ x) pc off ls r h
      | .gt => br (y < x) pc off ls r h
      | .le => br (x ≤ y) pc off ls r h)
    | _ => none)
  | .ifnull off => gL (len == 3) (match st with
    | .ref a :: r => br (a = 0) pc off ls r h
    | _ => none)
  | .ifnonnull off => gL (len == 3) (match st with
    | .ref a :: r => br (¬ a = 0) pc off ls r h
    | _ => none)
  | .goto off => gL (len == 3 && jok pc off) (go (jmp pc off) ls st h)
  | .tableswitch d lo hi offs => (match st with
    | .int x :: r => if x.toInt < lo ∨ hi < x.toInt then gL (jok pc d) (go (jmp pc d) ls r h) else (match offs[(x.toInt - lo).toNat]? with
      | some off => gL (jok pc off) (go (jmp pc off) ls r h)
      | none => none)
    | _ => none)
  | .iaload => gL (len == 1) (match st with
    | .int i :: .ref a :: r => gL ((hK h a == 20 || hK h a == 19) && inA h a i) (go (pc + 1) ls (.int (hAI h a i.toNatClampNeg) :: r) h)
    | _ => none)
  | .baload => gL (len == 1) (match st with
    | .int i :: .ref a :: r => gL (hK h a == 21 && inA h a i) (go (pc + 1) ls (.int (hAI h a i.toNatClampNeg) :: r) h)
    | _ => none)
  | .faload => gL (len == 1) (match st with
    | .int i :: .ref a :: r => gL (hK h a == 22 && inA h a i) (go (pc + 1) ls (.float (hAF h a i.toNatClampNeg) :: r) h)
    | _ => none)
  | .laload => gL (len == 1) (match st with
    | .int i :: .ref a :: r => gL (hK h a == 23 && inA h a i) (go (pc + 1) ls (.long (hAL h a i.toNatClampNeg) :: r) h)
    | _ => none)
  | .daload => gL (len == 1) (match st with
    | .int i :: .ref a :: r => gL (hK h a == 24 && inA h a i) (go (pc + 1) ls (.double (hAD h a i.toNatClampNeg) :: r) h)
    | _ => none)
  | .aaload => gL (len == 1) (match st with
    | .int i :: .ref a :: r => gL (decide (25 ≤ hK h a) && decide (hK h a ≤ 29) && inA h a i) (go (pc + 1) ls (.ref (hAR h a i.toNatClampNeg) :: r) h)
    | _ => none)
  | .iastore => gL (len == 1) (match st with
    | .int x :: .int i :: .ref a :: r => gL (hK h a == 20 && inA h a i) (go (pc + 1) ls r (sAI h a i.toNatClampNeg x))
    | _ => none)
  | .bastore => gL (len == 1) (match st with
    | .int x :: .int i :: .ref a :: r => gL (hK h a == 21 && inA h a i && isZ x) (go (pc + 1) ls r (sAI h a i.toNatClampNeg x))
    | _ => none)
  | .fastore => gL (len == 1) (match st with
    | .float x :: .int i :: .ref a :: r => gL (hK h a == 22 && inA h a i) (go (pc + 1) ls r (sAF h a i.toNatClampNeg x))
    | _ => none)
  | .lastore => gL (len == 1) (match st with
    | .long x :: .int i :: .ref a :: r => gL (hK h a == 23 && inA h a i) (go (pc + 1) ls r (sAL h a i.toNatClampNeg x))
    | _ => none)
  | .dastore => gL (len == 1) (match st with
    | .double x :: .int i :: .ref a :: r => gL (hK h a == 24 && inA h a i) (go (pc + 1) ls r (sAD h a i.toNatClampNeg x))
    | _ => none)
  | .aastore => gL (len == 1) (match st with
    | .ref v :: .int i :: .ref a :: r => gL (decide (25 ≤ hK h a) && decide (hK h a ≤ 29) && inA h a i && (decide (v = 0) || (decide (1 < v) && hK h v == acl (hK h a - 25)))) (go (pc + 1) ls r (sAR h a i.toNatClampNeg v))
    | _ => none)
  | .arraylength => gL (len == 1) (match st with
    | .ref a :: r => gL (decide (19 ≤ hK h a) && decide (hK h a ≤ 29)) (go (pc + 1) ls (.int (Int32.ofNat (hL h a)) :: r) h)
    | _ => none)
  | .getfield j => gL (len == 3) (match st with
    | .ref a :: r => (match fres (mOwn y) j with
      | some (ci, k) => gL (hK h a == ci) (match fvl h ci k a with
        | some v => go (pc + 3) ls (v :: r) h
        | none => none)
      | none => none)
    | _ => none)
  | .putfield j => gL (len == 3) (match st with
    | v :: .ref a :: r => (match fres (mOwn y) j with
      | some (ci, k) => gL (hK h a == ci && (!(ffin ci k) || (mIni y && mOwn y == ci))) (match fsv h ci k a v with
        | some h1 => go (pc + 3) ls r h1
        | none => none)
      | none => none)
    | _ => none)
  | .new j => gL (len == 3) (match nres (mOwn y) j with
    | some ci => go (pc + 3) ls (.ref (hN h) :: st) (nw h ci 0 (nfld ci))
    | none => (match thw y pc j with
      | some e => gL (decide (st.length ≤ 4) && st.all c1 && (mHH y).isEmpty) (some (.inr (.inr (.inr e, thr h))))
      | none => none))
  | .newarray t => gL (len == 2) (match st with
    | .int n :: r => gL (decide (0 ≤ n) && decide (n.toNatClampNeg ≤ 20000)) (match t with
      | .int => go (pc + 2) ls (.ref (hN h) :: r) (nw h 20 n.toNatClampNeg n.toNatClampNeg)
      | .boolean => go (pc + 2) ls (.ref (hN h) :: r) (nw h 21 n.toNatClampNeg n.toNatClampNeg)
      | .float => go (pc + 2) ls (.ref (hN h) :: r) (nw h 22 n.toNatClampNeg n.toNatClampNeg)
      | .long => go (pc + 2) ls (.ref (hN h) :: r) (nw h 23 n.toNatClampNeg n.toNatClampNeg)
      | .double => go (pc + 2) ls (.ref (hN h) :: r) (nw h 24 n.toNatClampNeg n.toNatClampNeg)
      | _ => none)
    | _ => none)
  | .anewarray j => gL (len == 3) (match st with
    | .int n :: r => gL (decide (0 ≤ n) && decide (n.toNatClampNeg ≤ 20000)) (match ares (mOwn y) j with
      | some t => go (pc + 3) ls (.ref (hN h) :: r) (nw h (25 + t) n.toNatClampNeg n.toNatClampNeg)
      | none => none)
    | _ => none)
  | .ldc j => gL (len == 2) (match lres (mOwn y) j with
    | some v => go (pc + 2) ls (v :: st) h
    | none => none)
  | .ldc_w j => gL (len == 3) (match lres (mOwn y) j with
    | some v => go (pc + 3) ls (v :: st) h
    | none => none)
  | .invokevirtual j => gL (len == 3) (match cres (mOwn y) j with
    | some (0, z) => (match st[mNa z]? with
      | some (.ref b) => gL (decide (1 < b) && hK h b == mOwn z) (cll z (mNa z + 1) st)
      | _ => none)
    | _ => none)
  | .invokestatic j => gL (len == 3) (match cres (mOwn y) j with
    | some (1, z) => cll z (mNa z) st
    | some (5, _) => (match st with
      | .int y :: .int x :: r => gL (decide (r.length ≤ 4) && r.all c1) (go (pc + 3) ls (.int (if x < y then y else x) :: r) h)
      | _ => none)
    | some (6, _) => (match st with
      | .int y :: .int x :: r => gL (decide (r.length ≤ 4) && r.all c1) (go (pc + 3) ls (.int (if y < x then y else x) :: r) h)
      | _ => none)
    | _ => none)
  | .invokespecial j => gL (len == 3) (match cres (mOwn y) j with
    | some (2, z) => (match st[mNa z]? with
      | some (.ref b) => gL (decide (1 < b)) (cll z (mNa z + 1) st)
      | _ => none)
    | some (3, z) => (match st[mNa z]? with
      | some (.ref b) => gL (decide (1 < b)) (cll z (mNa z + 1) st)
      | _ => none)
    | some (4, _) => (match st with
      | .ref b :: r => gL (decide (1 < b) && decide (r.length ≤ 4) && r.all c1) (go (pc + 3) ls r h)
      | _ => none)
    | _ => none)
  | .ireturn => gL (len == 1) (match st with
    | [.int x] => gL (rok (mRet y) (some (.int x))) (some (.inr (.inr (.inl (some (.int x)), h))))
    | _ => none)
  | .freturn => gL (len == 1) (match st with
    | [.float x] => gL (rok (mRet y) (some (.float x))) (some (.inr (.inr (.inl (some (.float x)), h))))
    | _ => none)
  | .areturn => gL (len == 1) (match st with
    | [.ref x] => gL (rok (mRet y) (some (.ref x))) (some (.inr (.inr (.inl (some (.ref x)), h))))
    | _ => none)
  | .return_ => gL (len == 1) (match st with
    | [] => gL (rok (mRet y) none) (some (.inr (.inr (.inl none, h))))
    | _ => none)
  | _ => none
/-- locals at the entry -/
def ent (y : MI) (as : List Value) : Lo := as.map some ++ List.replicate (mML y - as.length) none
/-- behind a call that threw: the handler, whose first act is to put the exception by -/
def hdl (y : MI) (pc e : Nat) (ls : Lo) : Option (Nat × Lo) := match hnd y pc e with
  | none => none
  | some q => if mOwn y ≠ 13 ∨ e < 1 ∨ 3 < e ∨ (mHH y).all (fun q => (hxT.find? (fun z => z.1 == q.2.2.2)).isSome) = false then none else (match decode (mCode y) q with
    | .ok (.astore k, 2) => if k < ls.length then some (q + 2, ls.set k none) else none
    | .ok (.astore_n k, 1) => if (k : Nat) < ls.length then some (q + 1, ls.set k none) else none
    | _ => none)
def ex : Nat → Nat → MI → Nat → Lo → List Value → HP → Option (Out × HP)
  | 0, _, _, _, _, _, _ => none
  | n + 1, d, y, pc, ls, st, h => match decode (mCode y) pc with
    | .error _ => none
    | .ok (i, len) => (match stpR y i len pc ls st h with
      | none => none
      | some (.inl (pc', ls', st', h')) => ex n d y pc' ls' st' h'
      | some (.inr (.inr r)) => some r
      | some (.inr (.inl (z, as, rest))) => (match d with
        | 0 => none
        | d' + 1 => if as.length ≤ mML z then (match ex n d' z 0 (ent z as) [] h with
          | none => none
          | some (.inl v, h') => ex n (d' + 1) y (pc + 3) ls (v.toList ++ rest) h'
          | some (.inr e, h') => if (mHH z).isEmpty = true ∧ mIni z = false then (match hnd y pc e with
            | none => if (mHH y).isEmpty = true then some (.inr e, h') else none
            | some _ => (match hdl y pc e ls with
              | some (pc', ls') => ex n (d' + 1) y pc' ls' [] h'
              | none => none)) else none) else none))
/-- more fuel, the same end -/
theorem ex_mono : ∀ (n d : Nat) (y : MI) (pc : Nat) (ls : Lo) (st : List Value) (h : HP) (r : Out × HP), ex n d y pc ls st h = some r → ex (n + 1) d y pc ls st h = some r := by
  intro n
  induction n with
  | zero => intro d y pc ls st h r hr; simp [ex] at hr
  | succ n ih =>
    intro d y pc ls st h r hr
    rw [ex] at hr
    rw [ex]
    cases hd : decode (mCode y) pc with
    | error e => rw [hd] at hr; simp at hr
    | ok il =>
      obtain ⟨i, len⟩ := il
      rw [hd] at hr
      simp only at hr ⊢
      cases hs : stpR y i len pc ls st h with
      | none => rw [hs] at hr; simp at hr
      | some sr =>
        rw [hs] at hr
        rcases sr with ⟨pc', ls', st', h'⟩ | ⟨z, as, rest⟩ | r'
        · simp only at hr ⊢
          exact ih _ _ _ _ _ _ _ hr
        · simp only at hr ⊢
          cases d with
          | zero => simp at hr
          | succ d' =>
            simp only at hr ⊢
            by_cases hl : as.length ≤ mML z
            · rw [if_pos hl] at hr ⊢
              cases hc : ex n d' z 0 (ent z as) [] h with
              | none => rw [hc] at hr; simp at hr
              | some q =>
                rw [hc] at hr
                rw [ih _ _ _ _ _ _ _ hc]
                obtain ⟨o, h'⟩ := q
                rcases o with v | e
                · simp only at hr ⊢
                  exact ih _ _ _ _ _ _ _ hr
                · simp only at hr ⊢
                  by_cases hz : (mHH z).isEmpty = true ∧ mIni z = false
                  case neg => rw [if_neg hz] at hr; simp at hr
                  rw [if_pos hz] at hr ⊢
                  cases hh : hnd y pc e with
                  | none => rw [hh] at hr; simpa using hr
                  | some q0 =>
                    rw [hh] at hr
                    simp only at hr ⊢
                    cases hq : hdl y pc e ls with
                    | none => rw [hq] at hr; simp at hr
                    | some pl =>
                      rw [hq] at hr
                      obtain ⟨pc', ls'⟩ := pl
                      simp only at hr ⊢
                      exact ih _ _ _ _ _ _ _ hr
            · rw [if_neg hl] at hr; simp at hr
        · simpa using hr
theorem ex_le {n m d : Nat} {y : MI} {pc : Nat} {ls : Lo} {st : List Value} {h : HP} {r : Out × HP} (hnm : n ≤ m) (hr : ex n d y pc ls st h = some r) : ex m d y pc ls st h = some r := by
  obtain ⟨k, rfl⟩ := Nat.exists_eq_add_of_le hnm
  clear hnm
  induction k with
  | zero => exact hr
  | succ k ih => exact ex_mono _ _ _ _ _ _ _ _ ih

