/-! ===== THE ABSTRACT MACHINE: a heap of numbered cells, fields by class and place, and what an instruction does to it ===== -/
def HP : Type := (Nat → Nat → Int32) × (Nat → Nat → UInt32) × (Nat → Nat → Nat) × (Nat → Nat → Int32) × (Nat → Nat → UInt32) × (Nat → Nat → Nat) × (Nat → Nat → Int64) × (Nat → Nat → UInt64) × (Nat → Nat) × (Nat → Nat) × (Nat) × (Nat) × (Nat)
def hI (h : HP) : Nat → Nat → Int32 := h.1
def hF (h : HP) : Nat → Nat → UInt32 := h.2.1
def hR (h : HP) : Nat → Nat → Nat := h.2.2.1
def hAI (h : HP) : Nat → Nat → Int32 := h.2.2.2.1
def hAF (h : HP) : Nat → Nat → UInt32 := h.2.2.2.2.1
def hAR (h : HP) : Nat → Nat → Nat := h.2.2.2.2.2.1
def hAL (h : HP) : Nat → Nat → Int64 := h.2.2.2.2.2.2.1
def hAD (h : HP) : Nat → Nat → UInt64 := h.2.2.2.2.2.2.2.1
def hK (h : HP) : Nat → Nat := h.2.2.2.2.2.2.2.2.1
def hL (h : HP) : Nat → Nat := h.2.2.2.2.2.2.2.2.2.1
def hN (h : HP) : Nat := h.2.2.2.2.2.2.2.2.2.2.1
def hC (h : HP) : Nat := h.2.2.2.2.2.2.2.2.2.2.2.1
def hZ (h : HP) : Nat := h.2.2.2.2.2.2.2.2.2.2.2.2
def u2 {α : Type} (m : Nat → Nat → α) (f a : Nat) (v : α) : Nat → Nat → α := fun f1 a1 => if f1 = f ∧ a1 = a then v else m f1 a1
def mkH (xI : Nat → Nat → Int32) (xF : Nat → Nat → UInt32) (xR : Nat → Nat → Nat) (xAI : Nat → Nat → Int32) (xAF : Nat → Nat → UInt32) (xAR : Nat → Nat → Nat) (xAL : Nat → Nat → Int64) (xAD : Nat → Nat → UInt64) (xK : Nat → Nat) (xL : Nat → Nat) (xN : Nat) (xC : Nat) (xZ : Nat) : HP := (xI, xF, xR, xAI, xAF, xAR, xAL, xAD, xK, xL, xN, xC, xZ)
def sI (h : HP) (f a : Nat) (v : Int32) : HP := mkH (u2 (hI h) f a v) (hF h) (hR h) (hAI h) (hAF h) (hAR h) (hAL h) (hAD h) (hK h) (hL h) (hN h) (hC h) (hZ h)
def sF (h : HP) (f a : Nat) (v : UInt32) : HP := mkH (hI h) (u2 (hF h) f a v) (hR h) (hAI h) (hAF h) (hAR h) (hAL h) (hAD h) (hK h) (hL h) (hN h) (hC h) (hZ h)
def sR (h : HP) (f a : Nat) (v : Nat) : HP := mkH (hI h) (hF h) (u2 (hR h) f a v) (hAI h) (hAF h) (hAR h) (hAL h) (hAD h) (hK h) (hL h) (hN h) (hC h) (hZ h)
def sAI (h : HP) (f a : Nat) (v : Int32) : HP := mkH (hI h) (hF h) (hR h) (u2 (hAI h) f a v) (hAF h) (hAR h) (hAL h) (hAD h) (hK h) (hL h) (hN h) (hC h) (hZ h)
def sAF (h : HP) (f a : Nat) (v : UInt32) : HP := mkH (hI h) (hF h) (hR h) (hAI h) (u2 (hAF h) f a v) (hAR h) (hAL h) (hAD h) (hK h) (hL h) (hN h) (hC h) (hZ h)
def sAR (h : HP) (f a : Nat) (v : Nat) : HP := mkH (hI h) (hF h) (hR h) (hAI h) (hAF h) (u2 (hAR h) f a v) (hAL h) (hAD h) (hK h) (hL h) (hN h) (hC h) (hZ h)
def sAL (h : HP) (f a : Nat) (v : Int64) : HP := mkH (hI h) (hF h) (hR h) (hAI h) (hAF h) (hAR h) (u2 (hAL h) f a v) (hAD h) (hK h) (hL h) (hN h) (hC h) (hZ h)
def sAD (h : HP) (f a : Nat) (v : UInt64) : HP := mkH (hI h) (hF h) (hR h) (hAI h) (hAF h) (hAR h) (hAL h) (u2 (hAD h) f a v) (hK h) (hL h) (hN h) (hC h) (hZ h)
def nw (h : HP) (k len sz : Nat) : HP := mkH (fun f a => if a = hN h then (0 : Int32) else hI h f a) (fun f a => if a = hN h then (0 : UInt32) else hF h f a) (fun f a => if a = hN h then 0 else hR h f a) (fun a i => if a = hN h then (0 : Int32) else hAI h a i) (fun a i => if a = hN h then (0 : UInt32) else hAF h a i) (fun a i => if a = hN h then 0 else hAR h a i) (fun a i => if a = hN h then (0 : Int64) else hAL h a i) (fun a i => if a = hN h then (0 : UInt64) else hAD h a i) (fun a => if a = hN h then k else hK h a) (fun a => if a = hN h then len else hL h a) (hN h + 1) (hC h + 1) (hZ h + sz)
def thr (h : HP) : HP := mkH (hI h) (hF h) (hR h) (hAI h) (hAF h) (hAR h) (hAL h) (hAD h) (hK h) (hL h) (hN h) (hC h + 1) (hZ h + 6)
theorem hI_sI (h : HP) (f a : Nat) (v : Int32) (f1 a1 : Nat) : hI (sI h f a v) f1 a1 = if f1 = f ∧ a1 = a then v else hI h f1 a1 := rfl
theorem hF_sI (h : HP) (f a : Nat) (v : Int32) : hF (sI h f a v) = hF h := rfl
theorem hR_sI (h : HP) (f a : Nat) (v : Int32) : hR (sI h f a v) = hR h := rfl
theorem hAI_sI (h : HP) (f a : Nat) (v : Int32) : hAI (sI h f a v) = hAI h := rfl
theorem hAF_sI (h : HP) (f a : Nat) (v : Int32) : hAF (sI h f a v) = hAF h := rfl
theorem hAR_sI (h : HP) (f a : Nat) (v : Int32) : hAR (sI h f a v) = hAR h := rfl
theorem hAL_sI (h : HP) (f a : Nat) (v : Int32) : hAL (sI h f a v) = hAL h := rfl
theorem hAD_sI (h : HP) (f a : Nat) (v : Int32) : hAD (sI h f a v) = hAD h := rfl
theorem hK_sI (h : HP) (f a : Nat) (v : Int32) : hK (sI h f a v) = hK h := rfl
theorem hL_sI (h : HP) (f a : Nat) (v : Int32) : hL (sI h f a v) = hL h := rfl
theorem hN_sI (h : HP) (f a : Nat) (v : Int32) : hN (sI h f a v) = hN h := rfl
theorem hC_sI (h : HP) (f a : Nat) (v : Int32) : hC (sI h f a v) = hC h := rfl
theorem hZ_sI (h : HP) (f a : Nat) (v : Int32) : hZ (sI h f a v) = hZ h := rfl
theorem hI_sF (h : HP) (f a : Nat) (v : UInt32) : hI (sF h f a v) = hI h := rfl
theorem hF_sF (h : HP) (f a : Nat) (v : UInt32) (f1 a1 : Nat) : hF (sF h f a v) f1 a1 = if f1 = f ∧ a1 = a then v else hF h f1 a1 := rfl
theorem hR_sF (h : HP) (f a : Nat) (v : UInt32) : hR (sF h f a v) = hR h := rfl
theorem hAI_sF (h : HP) (f a : Nat) (v : UInt32) : hAI (sF h f a v) = hAI h := rfl
theorem hAF_sF (h : HP) (f a : Nat) (v : UInt32) : hAF (sF h f a v) = hAF h := rfl
theorem hAR_sF (h : HP) (f a : Nat) (v : UInt32) : hAR (sF h f a v) = hAR h := rfl
theorem hAL_sF (h : HP) (f a : Nat) (v : UInt32) : hAL (sF h f a v) = hAL h := rfl
theorem hAD_sF (h : HP) (f a : Nat) (v : UInt32) : hAD (sF h f a v) = hAD h := rfl
theorem hK_sF (h : HP) (f a : Nat) (v : UInt32) : hK (sF h f a v) = hK h := rfl
theorem hL_sF (h : HP) (f a : Nat) (v : UInt32) : hL (sF h f a v) = hL h := rfl
theorem hN_sF (h : HP) (f a : Nat) (v : UInt32) : hN (sF h f a v) = hN h := rfl
theorem hC_sF (h : HP) (f a : Nat) (v : UInt32) : hC (sF h f a v) = hC h := rfl
theorem hZ_sF (h : HP) (f a : Nat) (v : UInt32) : hZ (sF h f a v) = hZ h := rfl
theorem hI_sR (h : HP) (f a : Nat) (v : Nat) : hI (sR h f a v) = hI h := rfl
theorem hF_sR (h : HP) (f a : Nat) (v : Nat) : hF (sR h f a v) = hF h := rfl
theorem hR_sR (h : HP) (f a : Nat) (v : Nat) (f1 a1 : Nat) : hR (sR h f a v) f1 a1 = if f1 = f ∧ a1 = a then v else hR h f1 a1 := rfl
theorem hAI_sR (h : HP) (f a : Nat) (v : Nat) : hAI (sR h f a v) = hAI h := rfl
theorem hAF_sR (h : HP) (f a : Nat) (v : Nat) : hAF (sR h f a v) = hAF h := rfl
theorem hAR_sR (h : HP) (f a : Nat) (v : Nat) : hAR (sR h f a v) = hAR h := rfl
theorem hAL_sR (h : HP) (f a : Nat) (v : Nat) : hAL (sR h f a v) = hAL h := rfl
theorem hAD_sR (h : HP) (f a : Nat) (v : Nat) : hAD (sR h f a v) = hAD h := rfl
theorem hK_sR (h : HP) (f a : Nat) (v : Nat) : hK (sR h f a v) = hK h := rfl
theorem hL_sR (h : HP) (f a : Nat) (v : Nat) : hL (sR h f a v) = hL h := rfl
theorem hN_sR (h : HP) (f a : Nat) (v : Nat) : hN (sR h f a v) = hN h := rfl
theorem hC_sR (h : HP) (f a : Nat) (v : Nat) : hC (sR h f a v) = hC h := rfl
theorem hZ_sR (h : HP) (f a : Nat) (v : Nat) : hZ (sR h f a v) = hZ h := rfl
theorem hI_sAI (h : HP) (f a : Nat) (v : Int32) : hI (sAI h f a v) = hI h := rfl
theorem hF_sAI (h : HP) (f a : Nat) (v : Int32) : hF (sAI h f a v) = hF h := rfl
theorem hR_sAI (h : HP) (f a : Nat) (v : Int32) : hR (sAI h f a v) = hR h := rfl
theorem hAI_sAI (h : HP) (f a : Nat) (v : Int32) (f1 a1 : Nat) : hAI (sAI h f a v) f1 a1 = if f1 = f ∧ a1 = a then v else hAI h f1 a1 := rfl
theorem hAF_sAI (h : HP) (f a : Nat) (v : Int32) : hAF (sAI h f a v) = hAF h := rfl
theorem hAR_sAI (h : HP) (f a : Nat) (v : Int32) : hAR (sAI h f a v) = hAR h := rfl
theorem hAL_sAI (h : HP) (f a : Nat) (v : Int32) : hAL (sAI h f a v) = hAL h := rfl
theorem hAD_sAI (h : HP) (f a : Nat) (v : Int32) : hAD (sAI h f a v) = hAD h := rfl
theorem hK_sAI (h : HP) (f a : Nat) (v : Int32) : hK (sAI h f a v) = hK h := rfl
theorem hL_sAI (h : HP) (f a : Nat) (v : Int32) : hL (sAI h f a v) = hL h := rfl
theorem hN_sAI (h : HP) (f a : Nat) (v : Int32) : hN (sAI h f a v) = hN h := rfl
theorem hC_sAI (h : HP) (f a : Nat) (v : Int32) : hC (sAI h f a v) = hC h := rfl
theorem hZ_sAI (h : HP) (f a : Nat) (v : Int32) : hZ (sAI h f a v) = hZ h := rfl
theorem hI_sAF (h : HP) (f a : Nat) (v : UInt32) : hI (sAF h f a v) = hI h := rfl
theorem hF_sAF (h : HP) (f a : Nat) (v : UInt32) : hF (sAF h f a v) = hF h := rfl
theorem hR_sAF (h : HP) (f a : Nat) (v : UInt32) : hR (sAF h f a v) = hR h := rfl
theorem hAI_sAF (h : HP) (f a : Nat) (v : UInt32) : hAI (sAF h f a v) = hAI h := rfl
theorem hAF_sAF (h : HP) (f a : Nat) (v : UInt32) (f1 a1 : Nat) : hAF (sAF h f a v) f1 a1 = if f1 = f ∧ a1 = a then v else hAF h f1 a1 := rfl
theorem hAR_sAF (h : HP) (f a : Nat) (v : UInt32) : hAR (sAF h f a v) = hAR h := rfl
theorem hAL_sAF (h : HP) (f a : Nat) (v : UInt32) : hAL (sAF h f a v) = hAL h := rfl
theorem hAD_sAF (h : HP) (f a : Nat) (v : UInt32) : hAD (sAF h f a v) = hAD h := rfl
theorem hK_sAF (h : HP) (f a : Nat) (v : UInt32) : hK (sAF h f a v) = hK h := rfl
theorem hL_sAF (h : HP) (f a : Nat) (v : UInt32) : hL (sAF h f a v) = hL h := rfl
theorem hN_sAF (h : HP) (f a : Nat) (v : UInt32) : hN (sAF h f a v) = hN h := rfl
theorem hC_sAF (h : HP) (f a : Nat) (v : UInt32) : hC (sAF h f a v) = hC h := rfl
theorem hZ_sAF (h : HP) (f a : Nat) (v : UInt32) : hZ (sAF h f a v) = hZ h := rfl
theorem hI_sAR (h : HP) (f a : Nat) (v : Nat) : hI (sAR h f a v) = hI h := rfl
theorem hF_sAR (h : HP) (f a : Nat) (v : Nat) : hF (sAR h f a v) = hF h := rfl
theorem hR_sAR (h : HP) (f a : Nat) (v : Nat) : hR (sAR h f a v) = hR h := rfl
theorem hAI_sAR (h : HP) (f a : Nat) (v : Nat) : hAI (sAR h f a v) = hAI h := rfl
theorem hAF_sAR (h : HP) (f a : Nat) (v : Nat) : hAF (sAR h f a v) = hAF h := rfl
theorem hAR_sAR (h : HP) (f a : Nat) (v : Nat) (f1 a1 : Nat) : hAR (sAR h f a v) f1 a1 = if f1 = f ∧ a1 = a then v else hAR h f1 a1 := rfl
theorem hAL_sAR (h : HP) (f a : Nat) (v : Nat) : hAL (sAR h f a v) = hAL h := rfl
theorem hAD_sAR (h : HP) (f a : Nat) (v : Nat) : hAD (sAR h f a v) = hAD h := rfl
theorem hK_sAR (h : HP) (f a : Nat) (v : Nat) : hK (sAR h f a v) = hK h := rfl
theorem hL_sAR (h : HP) (f a : Nat) (v : Nat) : hL (sAR h f a v) = hL h := rfl
theorem hN_sAR (h : HP) (f a : Nat) (v : Nat) : hN (sAR h f a v) = hN h := rfl
theorem hC_sAR (h : HP) (f a : Nat) (v : Nat) : hC (sAR h f a v) = hC h := rfl
theorem hZ_sAR (h : HP) (f a : Nat) (v : Nat) : hZ (sAR h f a v) = hZ h := rfl
theorem hI_sAL (h : HP) (f a : Nat) (v : Int64) : hI (sAL h f a v) = hI h := rfl
theorem hF_sAL (h : HP) (f a : Nat) (v : Int64) : hF (sAL h f a v) = hF h := rfl
theorem hR_sAL (h : HP) (f a : Nat) (v : Int64) : hR (sAL h f a v) = hR h := rfl
theorem hAI_sAL (h : HP) (f a : Nat) (v : Int64) : hAI (sAL h f a v) = hAI h := rfl
theorem hAF_sAL (h : HP) (f a : Nat) (v : Int64) : hAF (sAL h f a v) = hAF h := rfl
theorem hAR_sAL (h : HP) (f a : Nat) (v : Int64) : hAR (sAL h f a v) = hAR h := rfl
theorem hAL_sAL (h : HP) (f a : Nat) (v : Int64) (f1 a1 : Nat) : hAL (sAL h f a v) f1 a1 = if f1 = f ∧ a1 = a then v else hAL h f1 a1 := rfl
theorem hAD_sAL (h : HP) (f a : Nat) (v : Int64) : hAD (sAL h f a v) = hAD h := rfl
theorem hK_sAL (h : HP) (f a : Nat) (v : Int64) : hK (sAL h f a v) = hK h := rfl
theorem hL_sAL (h : HP) (f a : Nat) (v : Int64) : hL (sAL h f a v) = hL h := rfl
theorem hN_sAL (h : HP) (f a : Nat) (v : Int64) : hN (sAL h f a v) = hN h := rfl
theorem hC_sAL (h : HP) (f a : Nat) (v : Int64) : hC (sAL h f a v) = hC h := rfl
theorem hZ_sAL (h : HP) (f a : Nat) (v : Int64) : hZ (sAL h f a v) = hZ h := rfl
theorem hI_sAD (h : HP) (f a : Nat) (v : UInt64) : hI (sAD h f a v) = hI h := rfl
theorem hF_sAD (h : HP) (f a : Nat) (v : UInt64) : hF (sAD h f a v) = hF h := rfl
theorem hR_sAD (h : HP) (f a : Nat) (v : UInt64) : hR (sAD h f a v) = hR h := rfl
theorem hAI_sAD (h : HP) (f a : Nat) (v : UInt64) : hAI (sAD h f a v) = hAI h := rfl
theorem hAF_sAD (h : HP) (f a : Nat) (v : UInt64) : hAF (sAD h f a v) = hAF h := rfl
theorem hAR_sAD (h : HP) (f a : Nat) (v : UInt64) : hAR (sAD h f a v) = hAR h := rfl
theorem hAL_sAD (h : HP) (f a : Nat) (v : UInt64) : hAL (sAD h f a v) = hAL h := rfl
theorem hAD_sAD (h : HP) (f a : Nat) (v : UInt64) (f1 a1 : Nat) : hAD (sAD h f a v) f1 a1 = if f1 = f ∧ a1 = a then v else hAD h f1 a1 := rfl
theorem hK_sAD (h : HP) (f a : Nat) (v : UInt64) : hK (sAD h f a v) = hK h := rfl
theorem hL_sAD (h : HP) (f a : Nat) (v : UInt64) : hL (sAD h f a v) = hL h := rfl
theorem hN_sAD (h : HP) (f a : Nat) (v : UInt64) : hN (sAD h f a v) = hN h := rfl
theorem hC_sAD (h : HP) (f a : Nat) (v : UInt64) : hC (sAD h f a v) = hC h := rfl
theorem hZ_sAD (h : HP) (f a : Nat) (v : UInt64) : hZ (sAD h f a v) = hZ h := rfl
theorem hI_nw (h : HP) (k len sz f a : Nat) : hI (nw h k len sz) f a = if a = hN h then 0 else hI h f a := rfl
theorem hF_nw (h : HP) (k len sz f a : Nat) : hF (nw h k len sz) f a = if a = hN h then 0 else hF h f a := rfl
theorem hR_nw (h : HP) (k len sz f a : Nat) : hR (nw h k len sz) f a = if a = hN h then 0 else hR h f a := rfl
theorem hAI_nw (h : HP) (k len sz a i : Nat) : hAI (nw h k len sz) a i = if a = hN h then 0 else hAI h a i := rfl
theorem hAF_nw (h : HP) (k len sz a i : Nat) : hAF (nw h k len sz) a i = if a = hN h then 0 else hAF h a i := rfl
theorem hAR_nw (h : HP) (k len sz a i : Nat) : hAR (nw h k len sz) a i = if a = hN h then 0 else hAR h a i := rfl
theorem hAL_nw (h : HP) (k len sz a i : Nat) : hAL (nw h k len sz) a i = if a = hN h then 0 else hAL h a i := rfl
theorem hAD_nw (h : HP) (k len sz a i : Nat) : hAD (nw h k len sz) a i = if a = hN h then 0 else hAD h a i := rfl
theorem hK_nw (h : HP) (k len sz a : Nat) : hK (nw h k len sz) a = if a = hN h then k else hK h a := rfl
theorem hL_nw (h : HP) (k len sz a : Nat) : hL (nw h k len sz) a = if a = hN h then len else hL h a := rfl
theorem hN_nw (h : HP) (k len sz : Nat) : hN (nw h k len sz) = hN h + 1 := rfl
theorem hC_nw (h : HP) (k len sz : Nat) : hC (nw h k len sz) = hC h + 1 := rfl
theorem hZ_nw (h : HP) (k len sz : Nat) : hZ (nw h k len sz) = hZ h + sz := rfl
theorem hI_thr (h : HP) : hI (thr h) = hI h := rfl
theorem hF_thr (h : HP) : hF (thr h) = hF h := rfl
theorem hR_thr (h : HP) : hR (thr h) = hR h := rfl
theorem hAI_thr (h : HP) : hAI (thr h) = hAI h := rfl
theorem hAF_thr (h : HP) : hAF (thr h) = hAF h := rfl
theorem hAR_thr (h : HP) : hAR (thr h) = hAR h := rfl
theorem hAL_thr (h : HP) : hAL (thr h) = hAL h := rfl
theorem hAD_thr (h : HP) : hAD (thr h) = hAD h := rfl
theorem hK_thr (h : HP) : hK (thr h) = hK h := rfl
theorem hL_thr (h : HP) : hL (thr h) = hL h := rfl
theorem hN_thr (h : HP) : hN (thr h) = hN h := rfl
theorem hC_thr (h : HP) : hC (thr h) = hC h + 1 := rfl
theorem hZ_thr (h : HP) : hZ (thr h) = hZ h + 6 := rfl
/-- own class by its number -/
def ownR (n : Nat) : String := match n with
  | 0 => RX0
  | 1 => RX1
  | 2 => RX2
  | 3 => RX3
  | 4 => RX4
  | 5 => RX5
  | 6 => RX6
  | 7 => RX7
  | 8 => RX8
  | 9 => RX9
  | 10 => RX10
  | 11 => RX11
  | 12 => RX12
  | 13 => RL
  | _ => RJ6
/-- the kind of a field: 0 int, 1 float, 2 reference, 3 boolean -/
def ftT : List (List Nat) := [[3, 0, 0, 0, 0, 0], [2, 2], [0, 0, 0, 0, 0, 0, 3, 0, 0, 0], [0, 0, 0, 0], [2, 2, 0, 0, 0], [2, 2, 0, 2, 3, 1], [2, 2, 1, 1], [2, 0], [0, 2, 2, 2, 3, 1, 1, 0, 0, 0, 0, 0, 0, 1], [0, 0, 0, 0, 0, 0, 0, 1, 3, 2, 0, 0, 0, 0], [0, 0, 0, 2, 2, 2, 2], [2, 2, 2, 2, 2, 1], [0, 1, 1, 1, 0, 2, 2, 2, 2, 2, 2, 2, 2, 2, 2, 2, 2, 2, 2, 2, 2, 2, 2, 2, 2, 2, 2, 2, 2, 2, 2, 2, 2, 2, 2, 2, 2, 2, 2, 0, 0, 2, 2, 2, 2, 2, 2, 0, 2, 2, 0]]
def ftyp (ci k : Nat) : Nat := (ftT.getD ci []).getD k 9
def fnT : List (List Bool) := [[false, false, false, false, false, false], [true, true], [false, false, false, false, false, false, false, false, false, false], [true, true, true, true], [true, true, false, false, false], [true, true, false, true, false, false], [true, true, false, false], [true, false], [true, true, true, true, false, false, false, false, false, false, false, false, false, false], [false, false, false, false, false, false, false, false, false, true, false, false, false, false], [false, false, false, true, true, false, true], [true, true, true, true, true, false], [false, false, false, false, false, true, true, true, true, true, true, true, true, true, true, true, true, true, true, true, true, true, true, true, true, true, true, true, true, true, true, true, true, true, true, true, true, true, true, false, false, true, true, true, true, true, true, false, true, true, false]]
def ffin (ci k : Nat) : Bool := (fnT.getD ci []).getD k true
def nfT : List Nat := [6, 2, 10, 4, 5, 6, 4, 2, 14, 14, 7, 6, 51]
def nfld (ci : Nat) : Nat := nfT.getD ci 0
/-- a method: own class, name, code, locals, answer, parameters, handlers, whether it is a constructor -/
abbrev MI : Type := Nat × MethodName × ByteArray × Nat × Option FieldType × Nat × List (Nat × Nat × Nat × Nat) × Bool
def mOwn (y : MI) : Nat := y.1
def mNm (y : MI) : MethodName := y.2.1
def mCode (y : MI) : ByteArray := y.2.2.1
def mML (y : MI) : Nat := y.2.2.2.1
def mRet (y : MI) : Option FieldType := y.2.2.2.2.1
def mNa (y : MI) : Nat := y.2.2.2.2.2.1
def mHH (y : MI) : List (Nat × Nat × Nat × Nat) := y.2.2.2.2.2.2.1
def mIni (y : MI) : Bool := y.2.2.2.2.2.2.2
def mX0_init : MI := (0, yX0_init, cX0_init, 1, none, 0, [], true)
def mX0_start : MI := (0, yX0_start, cX0_start, 4, none, 3, [], false)
def mX0_isAnsweredAhead : MI := (0, yX0_isAnsweredAhead, cX0_isAnsweredAhead, 2, (some .boolean), 1, [], false)
def mX0_fitsBetween : MI := (0, yX0_fitsBetween, cX0_fitsBetween, 3, (some .boolean), 2, [], false)
def mX1_init : MI := (1, yX1_init, cX1_init, 3, none, 2, [], true)
def mX1_letPropose : MI := (1, yX1_letPropose, cX1_letPropose, 6, (some .int), 3, [], false)
def mX1_hear : MI := (1, yX1_hear, cX1_hear, 4, none, 1, [], false)
def mX1_hearPrepare : MI := (1, yX1_hearPrepare, cX1_hearPrepare, 4, none, 2, [], false)
def mX1_hearPromised : MI := (1, yX1_hearPromised, cX1_hearPromised, 4, none, 3, [], false)
def mX1_sendAccepts : MI := (1, yX1_sendAccepts, cX1_sendAccepts, 6, none, 3, [], false)
def mX1_hearAccept : MI := (1, yX1_hearAccept, cX1_hearAccept, 3, none, 2, [], false)
def mX1_hearAccepted : MI := (1, yX1_hearAccepted, cX1_hearAccepted, 3, none, 2, [], false)
def mX2_init : MI := (2, yX2_init, cX2_init, 1, none, 0, [], true)
def mX2_renew : MI := (2, yX2_renew, cX2_renew, 1, none, 0, [], false)
def mX2_dropProposal : MI := (2, yX2_dropProposal, cX2_dropProposal, 1, none, 0, [], false)
def mX2_nextBallot : MI := (2, yX2_nextBallot, cX2_nextBallot, 3, (some .int), 1, [], false)
def mX2_startProposal : MI := (2, yX2_startProposal, cX2_startProposal, 4, none, 3, [], false)
def mX2_learnTold : MI := (2, yX2_learnTold, cX2_learnTold, 3, none, 2, [], false)
def mX2_takeOn : MI := (2, yX2_takeOn, cX2_takeOn, 3, none, 2, [], false)
def mX3_init : MI := (3, yX3_init, cX3_init, 5, none, 4, [], true)
def mX3_isLike : MI := (3, yX3_isLike, cX3_isLike, 2, (some .boolean), 1, [], false)
def mX3_outdoes : MI := (3, yX3_outdoes, cX3_outdoes, 3, (some .boolean), 2, [], false)
def mX4_init : MI := (4, yX4_init, cX4_init, 2, none, 0, [], true)
def mX4_renew : MI := (4, yX4_renew, cX4_renew, 1, none, 0, [], false)
def mX4_goOn : MI := (4, yX4_goOn, cX4_goOn, 1, none, 0, [], false)
def mX4_isFull : MI := (4, yX4_isFull, cX4_isFull, 1, (some .boolean), 0, [], false)
def mX4_at : MI := (4, yX4_at, cX4_at, 2, (some (.object "QuorumHall$Act")), 1, [], false)
def mX4_findWrite : MI := (4, yX4_findWrite, cX4_findWrite, 4, (some (.object "QuorumHall$Act")), 2, [], false)
def mX4_addWrite : MI := (4, yX4_addWrite, cX4_addWrite, 5, none, 3, [], false)
def mX4_addRead : MI := (4, yX4_addRead, cX4_addRead, 3, none, 1, [], false)
def mX4_answerWrites : MI := (4, yX4_answerWrites, cX4_answerWrites, 4, none, 1, [], false)
def mX4_hasOneOrder : MI := (4, yX4_hasOneOrder, cX4_hasOneOrder, 1, (some .boolean), 0, [], false)
def mX4_canFeed : MI := (4, yX4_canFeed, cX4_canFeed, 12, (some .boolean), 5, [], false)
def mX4_writesDueAhead : MI := (4, yX4_writesDueAhead, cX4_writesDueAhead, 4, (some .int), 1, [], false)
def mX4_writesAheadOf : MI := (4, yX4_writesAheadOf, cX4_writesAheadOf, 6, (some .int), 3, [], false)
def mX5_init : MI := (5, yX5_init, cX5_init, 1, none, 0, [], true)
def mX5_start : MI := (5, yX5_start, cX5_start, 3, none, 1, [], false)
def mX5_learnSame : MI := (5, yX5_learnSame, cX5_learnSame, 3, none, 2, [], false)
def mX5_learnClock : MI := (5, yX5_learnClock, cX5_learnClock, 3, none, 2, [], false)
def mX5_knowing : MI := (5, yX5_knowing, cX5_knowing, 4, (some .int), 1, [], false)
def mX5_clockOf : MI := (5, yX5_clockOf, cX5_clockOf, 4, (some .float), 1, [], false)
def mX5_answeredSince : MI := (5, yX5_answeredSince, cX5_answeredSince, 4, (some .int), 1, [], false)
def mX5_hasAnswered : MI := (5, yX5_hasAnswered, cX5_hasAnswered, 2, (some .boolean), 1, [], false)
def mX6_init : MI := (6, yX6_init, cX6_init, 3, none, 2, [], true)
def mX6_renew : MI := (6, yX6_renew, cX6_renew, 1, none, 0, [], false)
def mX6_letStand : MI := (6, yX6_letStand, cX6_letStand, 4, none, 1, [], false)
def mX6_letBeat : MI := (6, yX6_letBeat, cX6_letBeat, 5, (some .int), 1, [], false)
def mX6_hear : MI := (6, yX6_hear, cX6_hear, 3, none, 1, [], false)
def mX6_hearAsk : MI := (6, yX6_hearAsk, cX6_hearAsk, 4, none, 2, [], false)
def mX6_hearVote : MI := (6, yX6_hearVote, cX6_hearVote, 3, none, 2, [], false)
def mX6_hearAppend : MI := (6, yX6_hearAppend, cX6_hearAppend, 4, none, 2, [], false)
def mX6_putEntries : MI := (6, yX6_putEntries, cX6_putEntries, 6, none, 2, [], false)
def mX6_sendAck : MI := (6, yX6_sendAck, cX6_sendAck, 6, none, 4, [], false)
def mX6_hearAck : MI := (6, yX6_hearAck, cX6_hearAck, 3, none, 2, [], false)
def mX6_commitWhatMostKnow : MI := (6, yX6_commitWhatMostKnow, cX6_commitWhatMostKnow, 3, none, 1, [], false)
def mX6_renewLease : MI := (6, yX6_renewLease, cX6_renewLease, 2, none, 1, [], false)
def mX7_init : MI := (7, yX7_init, cX7_init, 1, none, 0, [], true)
def mX7_isFull : MI := (7, yX7_isFull, cX7_isFull, 1, (some .boolean), 0, [], false)
def mX7_at : MI := (7, yX7_at, cX7_at, 2, (some (.object "QuorumHall$Entry")), 1, [], false)
def mX7_termAt : MI := (7, yX7_termAt, cX7_termAt, 3, (some .int), 1, [], false)
def mX7_put : MI := (7, yX7_put, cX7_put, 2, none, 1, [], false)
def mX7_cutBehind : MI := (7, yX7_cutBehind, cX7_cutBehind, 2, none, 1, [], false)
def mX7_numberOf : MI := (7, yX7_numberOf, cX7_numberOf, 4, (some .int), 2, [], false)
def mX7_hasSerial : MI := (7, yX7_hasSerial, cX7_hasSerial, 3, (some .boolean), 2, [], false)
def mX7_valueUpTo : MI := (7, yX7_valueUpTo, cX7_valueUpTo, 4, (some .int), 1, [], false)
def mX7_isLikeUpTo : MI := (7, yX7_isLikeUpTo, cX7_isLikeUpTo, 5, (some .boolean), 2, [], false)
def mX7_isOutdone : MI := (7, yX7_isOutdone, cX7_isOutdone, 5, (some .boolean), 3, [], false)
def mX8_init : MI := (8, yX8_init, cX8_init, 3, none, 1, [], true)
def mX8_renew : MI := (8, yX8_renew, cX8_renew, 2, none, 0, [], false)
def mX8_crash : MI := (8, yX8_crash, cX8_crash, 2, none, 0, [], false)
def mX8_rise : MI := (8, yX8_rise, cX8_rise, 2, none, 1, [], false)
def mX8_letPass : MI := (8, yX8_letPass, cX8_letPass, 2, none, 1, [], false)
def mX8_follow : MI := (8, yX8_follow, cX8_follow, 1, none, 0, [], false)
def mX8_learnTerm : MI := (8, yX8_learnTerm, cX8_learnTerm, 2, none, 1, [], false)
def mX8_promise : MI := (8, yX8_promise, cX8_promise, 3, none, 2, [], false)
def mX8_hasPromised : MI := (8, yX8_hasPromised, cX8_hasPromised, 1, (some .boolean), 0, [], false)
def mX8_holdsLease : MI := (8, yX8_holdsLease, cX8_holdsLease, 1, (some .boolean), 0, [], false)
def mX8_agreedInItsTerm : MI := (8, yX8_agreedInItsTerm, cX8_agreedInItsTerm, 1, (some .boolean), 0, [], false)
def mX8_canVoteFor : MI := (8, yX8_canVoteFor, cX8_canVoteFor, 3, (some .boolean), 1, [], false)
def mX8_agreesWith : MI := (8, yX8_agreesWith, cX8_agreesWith, 5, (some .boolean), 1, [], false)
def mX9_init : MI := (9, yX9_init, cX9_init, 1, none, 0, [], true)
def mX9_start : MI := (9, yX9_start, cX9_start, 5, none, 4, [], false)
def mX9_copyRest : MI := (9, yX9_copyRest, cX9_copyRest, 3, none, 1, [], false)
def mX9_addEntriesBehind : MI := (9, yX9_addEntriesBehind, cX9_addEntriesBehind, 5, none, 2, [], false)
def mX10_init : MI := (10, yX10_init, cX10_init, 2, none, 0, [], true)
def mX10_renew : MI := (10, yX10_renew, cX10_renew, 3, none, 1, [], false)
def mX10_most : MI := (10, yX10_most, cX10_most, 1, (some .int), 0, [], false)
def mX10_areMost : MI := (10, yX10_areMost, cX10_areMost, 2, (some .boolean), 1, [], false)
def mX10_at : MI := (10, yX10_at, cX10_at, 2, (some (.object "QuorumHall$Message")), 1, [], false)
def mX10_send : MI := (10, yX10_send, cX10_send, 6, (some (.object "QuorumHall$Message")), 4, [], false)
def mX10_takeOut : MI := (10, yX10_takeOut, cX10_takeOut, 4, none, 1, [], false)
def mX10_isCut : MI := (10, yX10_isCut, cX10_isCut, 3, (some .boolean), 2, [], false)
def mX10_switchCut : MI := (10, yX10_switchCut, cX10_switchCut, 4, (some .boolean), 2, [], false)
def mX11_init : MI := (11, yX11_init, cX11_init, 2, none, 0, [], true)
def mX11_begin : MI := (11, yX11_begin, cX11_begin, 3, (some .int), 1, [], false)
def mX11_toggle : MI := (11, yX11_toggle, cX11_toggle, 3, (some .boolean), 1, [], false)
def mX11_cut : MI := (11, yX11_cut, cX11_cut, 3, (some .boolean), 2, [], false)
def mX11_rate : MI := (11, yX11_rate, cX11_rate, 4, (some .float), 2, [], false)
def mX11_spans : MI := (11, yX11_spans, cX11_spans, 3, none, 2, [], false)
def mX11_pass : MI := (11, yX11_pass, cX11_pass, 4, (some .float), 1, [], false)
def mX11_deliver : MI := (11, yX11_deliver, cX11_deliver, 4, (some .int), 1, [], false)
def mX11_lose : MI := (11, yX11_lose, cX11_lose, 2, (some .int), 1, [], false)
def mX11_twice : MI := (11, yX11_twice, cX11_twice, 3, (some .int), 1, [], false)
def mX11_stand : MI := (11, yX11_stand, cX11_stand, 3, (some .int), 1, [], false)
def mX11_beat : MI := (11, yX11_beat, cX11_beat, 3, (some .int), 1, [], false)
def mX11_request : MI := (11, yX11_request, cX11_request, 7, (some .int), 4, [], false)
def mX11_read : MI := (11, yX11_read, cX11_read, 4, (some .int), 1, [], false)
def mX11_propose : MI := (11, yX11_propose, cX11_propose, 5, (some .int), 3, [], false)
def mX11_steps : MI := (11, yX11_steps, cX11_steps, 1, (some .int), 0, [], false)
def mX11_messages : MI := (11, yX11_messages, cX11_messages, 1, (some .int), 0, [], false)
def mX11_message : MI := (11, yX11_message, cX11_message, 4, (some .int), 2, [], false)
def mX11_of : MI := (11, yX11_of, cX11_of, 4, (some .int), 2, [], false)
def mX11_entry : MI := (11, yX11_entry, cX11_entry, 5, (some .int), 3, [], false)
def mX11_clock : MI := (11, yX11_clock, cX11_clock, 2, (some .float), 1, [], false)
def mX11_lease : MI := (11, yX11_lease, cX11_lease, 3, (some .float), 1, [], false)
def mX11_leases : MI := (11, yX11_leases, cX11_leases, 3, (some .int), 0, [], false)
def mX11_decision : MI := (11, yX11_decision, cX11_decision, 5, (some .int), 3, [], false)
def mX11_acts : MI := (11, yX11_acts, cX11_acts, 1, (some .int), 0, [], false)
def mX11_act : MI := (11, yX11_act, cX11_act, 4, (some .int), 2, [], false)
def mX11_isInOrder : MI := (11, yX11_isInOrder, cX11_isInOrder, 1, (some .boolean), 0, [], false)
def mX11_isAgreed : MI := (11, yX11_isAgreed, cX11_isAgreed, 3, (some .boolean), 0, [], false)
def mX11_renew : MI := (11, yX11_renew, cX11_renew, 3, none, 1, [], false)
def mX11_needMachine : MI := (11, yX11_needMachine, cX11_needMachine, 2, (some (.object "QuorumHall$Machine")), 1, [], false)
def mX11_needChoice : MI := (11, yX11_needChoice, cX11_needChoice, 3, (some (.object "QuorumHall$Choice")), 2, [], false)
def mX11_needRange : MI := (11, yX11_needRange, cX11_needRange, 3, none, 3, [], false)
def mX11_needMessage : MI := (11, yX11_needMessage, cX11_needMessage, 3, (some (.object "QuorumHall$Message")), 1, [], false)
def mX12_init : MI := (12, yX12_init, cX12_init, 1, none, 0, [], true)
def mX12_thrown : MI := (12, yX12_thrown, cX12_thrown, 1, (some .int), 0, [], false)
def mX12_in : MI := (12, yX12_in, cX12_in, 3, (some .boolean), 3, [], false)
def mX12_goes : MI := (12, yX12_goes, cX12_goes, 4, (some .boolean), 3, [], false)
def mX12_isMachine : MI := (12, yX12_isMachine, cX12_isMachine, 2, (some .boolean), 1, [], false)
def mX12_most : MI := (12, yX12_most, cX12_most, 1, (some .int), 0, [], false)
def mX12_bits : MI := (12, yX12_bits, cX12_bits, 3, (some .int), 1, [], false)
def mX12_begins : MI := (12, yX12_begins, cX12_begins, 3, none, 1, [], false)
def mX12_begin : MI := (12, yX12_begin, cX12_begin, 3, (some .int), 1, [], false)
def mX12_ends : MI := (12, yX12_ends, cX12_ends, 2, none, 0, [], false)
def mX12_isAgreedAt : MI := (12, yX12_isAgreedAt, cX12_isAgreedAt, 4, (some .boolean), 1, [], false)
def mX12_follows : MI := (12, yX12_follows, cX12_follows, 2, none, 1, [], false)
def mX12_toggle : MI := (12, yX12_toggle, cX12_toggle, 3, (some .boolean), 1, [], false)
def mX12_cut : MI := (12, yX12_cut, cX12_cut, 3, (some .boolean), 2, [], false)
def mX12_rate : MI := (12, yX12_rate, cX12_rate, 3, (some .float), 2, [], false)
def mX12_spans : MI := (12, yX12_spans, cX12_spans, 3, none, 2, [], false)
def mX12_pass : MI := (12, yX12_pass, cX12_pass, 4, (some .float), 1, [], false)
def mX12_sends : MI := (12, yX12_sends, cX12_sends, 7, (some .int), 4, [], false)
def mX12_leaves : MI := (12, yX12_leaves, cX12_leaves, 3, none, 1, [], false)
def mX12_isMessage : MI := (12, yX12_isMessage, cX12_isMessage, 2, (some .boolean), 1, [], false)
def mX12_lose : MI := (12, yX12_lose, cX12_lose, 2, (some .int), 1, [], false)
def mX12_twice : MI := (12, yX12_twice, cX12_twice, 3, (some .int), 1, [], false)
def mX12_deliver : MI := (12, yX12_deliver, cX12_deliver, 7, (some .int), 1, [], false)
def mX12_termAt : MI := (12, yX12_termAt, cX12_termAt, 3, (some .int), 2, [], false)
def mX12_promises : MI := (12, yX12_promises, cX12_promises, 2, (some .boolean), 1, [], false)
def mX12_stand : MI := (12, yX12_stand, cX12_stand, 6, (some .int), 1, [], false)
def mX12_asked : MI := (12, yX12_asked, cX12_asked, 8, none, 1, [], false)
def mX12_voted : MI := (12, yX12_voted, cX12_voted, 3, none, 1, [], false)
def mX12_beat : MI := (12, yX12_beat, cX12_beat, 11, (some .int), 1, [], false)
def mX12_acks : MI := (12, yX12_acks, cX12_acks, 7, none, 5, [], false)
def mX12_appended : MI := (12, yX12_appended, cX12_appended, 10, none, 2, [], false)
def mX12_rankedSame : MI := (12, yX12_rankedSame, cX12_rankedSame, 7, (some .int), 2, [], false)
def mX12_acknowledged : MI := (12, yX12_acknowledged, cX12_acknowledged, 5, none, 2, [], false)
def mX12_leases : MI := (12, yX12_leases, cX12_leases, 7, none, 1, [], false)
def mX12_actOf : MI := (12, yX12_actOf, cX12_actOf, 4, (some .int), 2, [], false)
def mX12_acts : MI := (12, yX12_acts, cX12_acts, 6, none, 5, [], false)
def mX12_entryOf : MI := (12, yX12_entryOf, cX12_entryOf, 7, (some .int), 4, [], false)
def mX12_request : MI := (12, yX12_request, cX12_request, 11, (some .int), 4, [], false)
def mX12_valueOf : MI := (12, yX12_valueOf, cX12_valueOf, 7, (some .int), 1, [], false)
def mX12_holdsLease : MI := (12, yX12_holdsLease, cX12_holdsLease, 2, (some .boolean), 1, [], false)
def mX12_read : MI := (12, yX12_read, cX12_read, 5, (some .int), 1, [], false)
def mX12_propose : MI := (12, yX12_propose, cX12_propose, 9, (some .int), 3, [], false)
def mX12_prepared : MI := (12, yX12_prepared, cX12_prepared, 4, none, 1, [], false)
def mX12_promised : MI := (12, yX12_promised, cX12_promised, 5, none, 1, [], false)
def mX12_accepted : MI := (12, yX12_accepted, cX12_accepted, 4, none, 1, [], false)
def mX12_counts : MI := (12, yX12_counts, cX12_counts, 3, none, 1, [], false)
def mX12_steps : MI := (12, yX12_steps, cX12_steps, 1, (some .int), 0, [], false)
def mX12_messages : MI := (12, yX12_messages, cX12_messages, 1, (some .int), 0, [], false)
def mX12_message : MI := (12, yX12_message, cX12_message, 4, (some .int), 2, [], false)
def mX12_of : MI := (12, yX12_of, cX12_of, 4, (some .int), 2, [], false)
def mX12_entry : MI := (12, yX12_entry, cX12_entry, 6, (some .int), 3, [], false)
def mX12_clock : MI := (12, yX12_clock, cX12_clock, 2, (some .float), 1, [], false)
def mX12_lease : MI := (12, yX12_lease, cX12_lease, 2, (some .float), 1, [], false)
def mX12_leases_ : MI := (12, yX12_leases_, cX12_leases_, 3, (some .int), 0, [], false)
def mX12_decision : MI := (12, yX12_decision, cX12_decision, 6, (some .int), 3, [], false)
def mX12_acts_ : MI := (12, yX12_acts_, cX12_acts_, 1, (some .int), 0, [], false)
def mX12_act : MI := (12, yX12_act, cX12_act, 3, (some .int), 2, [], false)
def mX12_mayCome : MI := (12, yX12_mayCome, cX12_mayCome, 5, (some .boolean), 2, [], false)
def mX12_isInOrder : MI := (12, yX12_isInOrder, cX12_isInOrder, 8, (some .boolean), 0, [], false)
def mX12_areAlike : MI := (12, yX12_areAlike, cX12_areAlike, 8, (some .boolean), 2, [], false)
def mX12_isAgreed : MI := (12, yX12_isAgreed, cX12_isAgreed, 4, (some .boolean), 0, [], false)
def mJ6_bitCount_0f7a4 : MI := (14, yJ6_bitCount_0f7a4, cJ6_bitCount_0f7a4, 1, (some .int), 1, [], false)
def mL_begin : MI := (13, yL_begin, cL_begin, 4, (some .int), 3, [(0, 9, 12, 13)], false)
def mL_toggle : MI := (13, yL_toggle, cL_toggle, 4, (some .int), 3, [(0, 16, 19, 19)], false)
def mL_cut : MI := (13, yL_cut, cL_cut, 5, (some .int), 4, [(0, 17, 20, 19), (0, 17, 24, 13)], false)
def mL_rate : MI := (13, yL_rate, cL_rate, 5, (some .int), 4, [(0, 10, 13, 19), (0, 10, 17, 13)], false)
def mL_spans : MI := (13, yL_spans, cL_spans, 4, (some .int), 3, [(0, 6, 9, 13)], false)
def mL_pass : MI := (13, yL_pass, cL_pass, 4, (some .int), 3, [(0, 9, 12, 13)], false)
def mL_deliver : MI := (13, yL_deliver, cL_deliver, 4, (some .int), 3, [(0, 9, 12, 19), (0, 9, 15, 40)], false)
def mL_lose : MI := (13, yL_lose, cL_lose, 4, (some .int), 3, [(0, 9, 12, 19)], false)
def mL_twice : MI := (13, yL_twice, cL_twice, 4, (some .int), 3, [(0, 9, 12, 19)], false)
def mL_stand : MI := (13, yL_stand, cL_stand, 4, (some .int), 3, [(0, 9, 12, 19), (0, 9, 15, 40)], false)
def mL_beat : MI := (13, yL_beat, cL_beat, 4, (some .int), 3, [(0, 9, 12, 19), (0, 9, 15, 40)], false)
def mL_request : MI := (13, yL_request, cL_request, 7, (some .int), 6, [(0, 14, 17, 19), (0, 14, 21, 13), (0, 14, 25, 40)], false)
def mL_read : MI := (13, yL_read, cL_read, 4, (some .int), 3, [(0, 9, 12, 19), (0, 9, 15, 40)], false)
def mL_propose : MI := (13, yL_propose, cL_propose, 6, (some .int), 5, [(0, 12, 15, 19), (0, 12, 19, 13), (0, 12, 23, 40)], false)
def mL_message : MI := (13, yL_message, cL_message, 5, (some .int), 4, [(0, 10, 13, 19), (0, 10, 17, 13)], false)
def mL_of : MI := (13, yL_of, cL_of, 5, (some .int), 4, [(0, 10, 13, 19), (0, 10, 17, 13)], false)
def mL_entry : MI := (13, yL_entry, cL_entry, 6, (some .int), 5, [(0, 12, 15, 19), (0, 12, 19, 13)], false)
def mL_clock : MI := (13, yL_clock, cL_clock, 4, (some .int), 3, [(0, 9, 12, 19)], false)
def mL_lease : MI := (13, yL_lease, cL_lease, 4, (some .int), 3, [(0, 9, 12, 19)], false)
def mL_decision : MI := (13, yL_decision, cL_decision, 6, (some .int), 5, [(0, 12, 15, 19), (0, 12, 19, 13)], false)
def mL_act : MI := (13, yL_act, cL_act, 5, (some .int), 4, [(0, 10, 13, 19), (0, 10, 17, 13)], false)
def mL_law : MI := (13, yL_law, cL_law, 8, (some .boolean), 1, [], false)
/-- fields by own class and pool number: class, place, place of the word in lw_tbl -/
def frT_0 : List (Nat × Nat × Nat × Nat × Nat) := [(0, 9, 0, 0, 244), (0, 15, 0, 3, 251), (0, 19, 0, 4, 254), (0, 22, 0, 5, 257), (0, 25, 0, 1, 247), (0, 28, 0, 2, 249), (1, 9, 1, 0, 224), (1, 15, 1, 1, 225), (1, 19, 8, 3, 411), (1, 25, 8, 0, 401), (1, 39, 10, 0, 172), (1, 44, 2, 4, 367), (1, 51, 9, 11, 135), (1, 56, 9, 2, 110), (1, 59, 9, 0, 101), (1, 76, 9, 3, 114), (1, 79, 2, 0, 355), (1, 82, 9, 1, 105), (1, 85, 2, 1, 358), (1, 88, 9, 12, 137), (1, 89, 2, 2, 361), (1, 92, 9, 13, 139), (1, 95, 2, 6, 372), (1, 99, 2, 7, 374), (1, 114, 2, 8, 376), (1, 117, 2, 9, 378), (1, 120, 2, 5, 370), (1, 124, 2, 3, 364), (2, 9, 2, 0, 354), (2, 15, 2, 1, 357), (2, 18, 2, 2, 360), (2, 21, 2, 3, 363), (2, 27, 2, 4, 368), (2, 30, 2, 5, 369), (2, 33, 2, 6, 371), (2, 37, 2, 7, 373), (2, 40, 2, 8, 375), (2, 43, 2, 9, 377), (3, 7, 3, 0, 1057), (3, 13, 3, 1, 1061), (3, 16, 3, 2, 1064), (3, 19, 3, 3, 1067), (4, 11, 4, 0, 273), (4, 17, 4, 1, 274), (4, 21, 4, 2, 275), (4, 25, 4, 4, 279), (4, 28, 4, 3, 277), (4, 31, 0, 0, 245), (4, 35, 0, 1, 248), (4, 38, 0, 2, 250), (4, 45, 0, 5, 258), (4, 48, 8, 7, 422), (4, 53, 8, 1, 405), (4, 63, 8, 10, 432), (4, 70, 0, 4, 255), (4, 77, 0, 3, 252), (5, 9, 5, 0, 319), (5, 15, 5, 1, 321), (5, 18, 5, 3, 324), (5, 22, 5, 2, 322)]
def frT_1 : List (Nat × Nat × Nat × Nat × Nat) := [(5, 26, 5, 4, 325), (6, 9, 6, 0, 203), (6, 15, 6, 1, 204), (6, 20, 6, 2, 205), (6, 24, 6, 3, 207), (6, 27, 8, 8, 425), (6, 33, 8, 0, 402), (6, 36, 8, 9, 428), (6, 39, 8, 7, 420), (6, 42, 8, 11, 435), (6, 45, 10, 0, 173), (6, 54, 8, 1, 404), (6, 58, 7, 1, 305), (6, 63, 9, 4, 118), (6, 70, 9, 5, 121), (6, 73, 8, 2, 408), (6, 77, 5, 0, 320), (6, 87, 8, 10, 431), (6, 90, 9, 6, 124), (6, 91, 8, 5, 416), (6, 94, 9, 7, 126), (6, 95, 9, 10, 132), (6, 98, 9, 2, 111), (6, 101, 9, 3, 115), (6, 106, 9, 0, 102), (6, 126, 9, 1, 106), (6, 129, 9, 8, 128), (6, 164, 9, 9, 130), (6, 168, 3, 0, 1059), (6, 199, 5, 2, 323), (6, 202, 5, 4, 327), (6, 209, 5, 5, 330), (7, 11, 7, 0, 303), (7, 17, 7, 1, 304), (7, 25, 3, 0, 1058), (7, 28, 3, 1, 1062), (7, 31, 3, 2, 1065), (7, 44, 3, 3, 1068), (8, 12, 8, 1, 403), (8, 21, 8, 2, 407), (8, 27, 8, 3, 410), (8, 31, 8, 0, 400), (8, 36, 8, 4, 413), (8, 40, 8, 5, 415), (8, 44, 8, 6, 418), (8, 47, 8, 8, 424), (8, 50, 8, 9, 427), (8, 53, 8, 10, 430), (8, 56, 8, 11, 434), (8, 59, 8, 12, 436), (8, 62, 8, 13, 438), (8, 82, 8, 7, 421), (8, 85, 5, 4, 326), (8, 88, 5, 5, 329), (8, 95, 9, 1, 108), (8, 104, 7, 1, 306), (8, 107, 9, 5, 122), (8, 110, 9, 4, 119), (8, 111, 2, 3, 365), (9, 11, 9, 9, 129)]
def frT_2 : List (Nat × Nat × Nat × Nat × Nat) := [(9, 17, 9, 0, 100), (9, 21, 9, 1, 104), (9, 24, 9, 2, 109), (9, 27, 9, 3, 113), (9, 30, 9, 4, 117), (9, 33, 9, 5, 120), (9, 36, 9, 6, 123), (9, 39, 9, 7, 125), (9, 43, 9, 8, 127), (9, 47, 9, 10, 131), (9, 50, 9, 11, 134), (9, 53, 9, 12, 136), (9, 56, 9, 13, 138), (10, 11, 10, 3, 178), (10, 17, 10, 4, 179), (10, 22, 10, 5, 180), (10, 26, 10, 6, 181), (10, 29, 10, 0, 170), (10, 33, 10, 1, 174), (10, 36, 10, 2, 176), (11, 11, 11, 0, 505), (11, 18, 11, 1, 506), (11, 27, 11, 2, 507), (11, 34, 11, 3, 508), (11, 41, 11, 4, 509), (11, 58, 10, 0, 171), (11, 69, 8, 4, 414), (11, 76, 6, 2, 206), (11, 95, 8, 6, 419), (11, 98, 8, 5, 417), (11, 103, 6, 3, 208), (11, 106, 11, 5, 510), (11, 116, 9, 2, 112), (11, 121, 9, 1, 107), (11, 135, 10, 2, 177), (11, 138, 9, 0, 103), (11, 150, 10, 1, 175), (11, 153, 9, 3, 116), (11, 163, 8, 7, 423), (11, 175, 8, 8, 426), (11, 191, 0, 3, 253), (11, 198, 8, 1, 406), (11, 237, 8, 10, 433), (11, 257, 4, 3, 278), (11, 260, 9, 10, 133), (11, 265, 8, 9, 429), (11, 268, 7, 1, 307), (11, 269, 8, 12, 437), (11, 278, 3, 0, 1060), (11, 279, 3, 1, 1063), (11, 282, 3, 2, 1066), (11, 285, 3, 3, 1069), (11, 286, 8, 2, 409), (11, 290, 5, 4, 328), (11, 295, 5, 5, 331), (11, 299, 2, 0, 356), (11, 304, 2, 1, 359), (11, 307, 2, 2, 362), (11, 310, 2, 3, 366), (11, 313, 4, 2, 276)]
def frT_3 : List (Nat × Nat × Nat × Nat × Nat) := [(11, 319, 0, 0, 246), (11, 322, 0, 4, 256), (11, 325, 0, 5, 259), (11, 344, 8, 3, 412), (12, 7, 12, 0, 1195), (12, 14, 12, 2, 1197), (12, 18, 12, 5, 1200), (12, 22, 12, 6, 1201), (12, 25, 12, 7, 1202), (12, 29, 12, 8, 1203), (12, 32, 12, 9, 1204), (12, 36, 12, 10, 1205), (12, 39, 12, 11, 1206), (12, 42, 12, 12, 1207), (12, 45, 12, 13, 1208), (12, 48, 12, 14, 1209), (12, 51, 12, 15, 1210), (12, 54, 12, 16, 1211), (12, 57, 12, 17, 1212), (12, 60, 12, 18, 1213), (12, 63, 12, 19, 1214), (12, 66, 12, 20, 1215), (12, 69, 12, 21, 1216), (12, 72, 12, 22, 1217), (12, 75, 12, 23, 1218), (12, 78, 12, 24, 1219), (12, 81, 12, 25, 1220), (12, 84, 12, 26, 1221), (12, 87, 12, 27, 1222), (12, 90, 12, 28, 1223), (12, 93, 12, 29, 1224), (12, 96, 12, 30, 1225), (12, 99, 12, 31, 1226), (12, 102, 12, 32, 1227), (12, 105, 12, 33, 1228), (12, 108, 12, 34, 1229), (12, 111, 12, 35, 1230), (12, 114, 12, 36, 1231), (12, 117, 12, 37, 1232), (12, 120, 12, 38, 1233), (12, 123, 12, 41, 1236), (12, 126, 12, 42, 1237), (12, 129, 12, 43, 1238), (12, 132, 12, 44, 1239), (12, 135, 12, 45, 1240), (12, 138, 12, 46, 1241), (12, 141, 12, 48, 1243), (12, 144, 12, 49, 1244), (12, 151, 12, 50, 1245), (12, 158, 12, 1, 1196), (12, 161, 12, 3, 1198), (12, 164, 12, 4, 1199), (12, 167, 12, 39, 1234), (12, 170, 12, 47, 1242), (12, 192, 12, 40, 1235)]
def frT : List (Nat × Nat × Nat × Nat × Nat) := frT_0 ++ (frT_1 ++ (frT_2 ++ (frT_3)))
def fres (oc i : Nat) : Option (Nat × Nat) := (frT.find? (fun q => q.1 == oc && q.2.1 == i)).map (fun q => (q.2.2.1, q.2.2.2.1))
/-- classes made with new, by own class and pool number: the class; places of three words -/
def nrT : List (Nat × Nat × Nat × Nat × Nat × Nat) := [(13, 8, 11, 75, 76, 54), (11, 9, 8, 83, 291, 61), (11, 15, 10, 85, 86, 55), (10, 9, 9, 91, 93, 56), (9, 9, 3, 98, 1052, 74), (11, 22, 6, 197, 198, 57), (11, 31, 1, 218, 219, 58), (11, 38, 4, 231, 232, 59), (4, 9, 0, 237, 239, 60), (8, 9, 7, 296, 297, 62), (7, 9, 3, 302, 1052, 74), (8, 18, 5, 313, 314, 63), (8, 25, 2, 347, 349, 64), (11, 216, 3, 1051, 1052, 74), (13, 88, 12, 1184, 1185, 65)]
def nres (oc i : Nat) : Option Nat := (nrT.find? (fun q => q.1 == oc && q.2.1 == i)).map (fun q => q.2.2.1)
/-- classes of arrays of references: 0 Machine, 1 Message, 2 Entry, 3 Choice, 4 Act -/
def arT : List (Nat × Nat × Nat × Nat × Nat) := [(11, 9, 0, 83, 84), (10, 9, 1, 91, 92), (9, 9, 2, 98, 99), (4, 9, 4, 237, 238), (7, 9, 2, 302, 99), (8, 25, 3, 347, 348), (11, 216, 2, 1051, 99)]
def ares (oc i : Nat) : Option Nat := (arT.find? (fun q => q.1 == oc && q.2.1 == i)).map (fun q => q.2.2.1)
def acl (t : Nat) : Nat := [8, 9, 3, 2, 0].getD t 99
def lrT : List (Nat × Nat × Value × Nat) := [(6, 19, .float 1092616192, 480), (11, 94, .float 1148846080, 740), (11, 101, .float 1092616192, 748), (11, 102, .float 1120403456, 749), (14, 265, .int 1431655765, 846), (14, 266, .int 858993459, 847), (14, 267, .int 252645135, 848), (11, 298, .float 3212836864, 1164), (12, 13, .float 1092616192, 1190), (12, 190, .float 1148846080, 1392), (12, 191, .float 1120403456, 1397), (12, 270, .float 3212836864, 1553)]
def lres (oc i : Nat) : Option Value := (lrT.find? (fun q => q.1 == oc && q.2.1 == i)).map (fun q => q.2.2.1)
def xrT : List (Nat × Nat × Nat) := [(51, 55, 1), (182, 186, 3), (127, 131, 2)]
def strT : List Nat := [53, 340, 84, 348, 352, 129, 170, 176, 184, 196, 208, 235, 342, 251, 263, 276, 317]
def xres (oc i j k : Nat) : Option Nat := if oc == 11 && strT.contains k then (xrT.find? (fun q => q.1 == i && q.2.1 == j)).map (fun q => q.2.2) else none
def exN (e : Nat) : String := match e with
  | 1 => "java/lang/IllegalArgumentException"
  | 2 => "java/lang/IllegalStateException"
  | _ => "java/lang/IndexOutOfBoundsException"
def hxT : List (Nat × Nat) := [(13, 1), (19, 3), (40, 2)]
/-- the handler of exception e at pc, of a method -/
def hnd (y : MI) (pc e : Nat) : Option Nat := ((mHH y).find? (fun q => decide (q.1 ≤ pc) && decide (pc < q.2.1) && ((hxT.find? (fun z => z.1 == q.2.2.2)).map (fun z => z.2) == some e))).map (fun q => q.2.2.1)
/-- calls by own class and pool number: kind (0 virtual, 1 static, 2 constructor, 3 of a nest mate, 4 of Object, 5 max, 6 min), the method, places of words -/
def crT_0 : List (Nat × Nat × Nat × MI × Nat × List Nat) := [(0, 3, 4, mX0_init, 243, []), (0, 31, 0, mX0_isAnsweredAhead, 567, [562, 60, 560, 561]), (1, 3, 4, mX0_init, 223, []), (1, 29, 0, mX2_nextBallot, 1118, [1121, 64, 1119, 1120]), (1, 35, 0, mX2_startProposal, 1122, [1125, 64, 1123, 1124]), (1, 47, 0, mX10_send, 926, [830, 55, 828, 829]), (1, 62, 0, mX1_hearPrepare, 922, [925, 58, 924, 16]), (1, 66, 0, mX1_hearPromised, 927, [930, 58, 929, 17]), (1, 70, 0, mX1_hearAccept, 944, [947, 58, 946, 19]), (1, 73, 0, mX1_hearAccepted, 948, [951, 58, 950, 20]), (1, 102, 0, mX2_learnTold, 931, [934, 64, 932, 933]), (1, 106, 0, mX10_areMost, 935, [842, 55, 840, 841]), (1, 110, 0, mX1_sendAccepts, 936, [939, 58, 938, 18]), (1, 121, 0, mX2_takeOn, 940, [943, 64, 941, 942]), (2, 3, 4, mX0_init, 353, []), (2, 24, 0, mX2_dropProposal, 501, [504, 64, 502, 503]), (3, 1, 4, mX0_init, 1056, []), (4, 3, 4, mX0_init, 236, []), (4, 20, 3, mX0_init, 240, [242, 60, 241]), (4, 41, 0, mX0_start, 1035, [1038, 60, 1036, 1037]), (4, 57, 0, mX7_numberOf, 956, [959, 62, 957, 958]), (4, 66, 1, mX4_canFeed, 552, [554, 59, 553]), (4, 73, 0, mX4_writesDueAhead, 555, [558, 59, 557, 1]), (4, 80, 0, mX0_fitsBetween, 563, [566, 60, 564, 565]), (4, 84, 0, mX4_writesAheadOf, 568, [571, 59, 570, 2]), (4, 88, 0, mX0_isAnsweredAhead, 559, [562, 60, 560, 561]), (5, 3, 4, mX0_init, 318, []), (5, 30, 0, mX5_hasAnswered, 910, [913, 63, 912, 14]), (5, 34, 0, mX5_answeredSince, 914, [917, 63, 916, 15]), (6, 3, 4, mX0_init, 202, []), (6, 50, 0, mX10_send, 827, [830, 55, 828, 829]), (6, 66, 0, mX7_termAt, 866, [822, 62, 820, 821]), (6, 83, 0, mX9_addEntriesBehind, 1004, [1007, 56, 1005, 1006]), (6, 102, 0, mX8_learnTerm, 803, [806, 61, 804, 805]), (6, 109, 0, mX6_hearAsk, 807, [810, 57, 809, 6]), (6, 113, 0, mX6_hearVote, 835, [838, 57, 837, 7]), (6, 116, 0, mX6_hearAppend, 857, [860, 57, 859, 8]), (6, 119, 0, mX6_hearAck, 881, [884, 57, 883, 11]), (6, 122, 0, mX8_canVoteFor, 811, [814, 61, 812, 813]), (6, 133, 0, mX10_areMost, 839, [842, 55, 840, 841])]
def crT_1 : List (Nat × Nat × Nat × MI × Nat × List Nat) := [(6, 137, 0, mX5_start, 853, [856, 63, 854, 855]), (6, 140, 0, mX6_sendAck, 861, [864, 57, 863, 9]), (6, 144, 0, mX8_follow, 865, [496, 61, 494, 495]), (6, 147, 6, mX0_init, 867, []), (6, 153, 0, mX6_putEntries, 868, [871, 57, 870, 10]), (6, 157, 5, mX0_init, 877, []), (6, 160, 0, mX8_promise, 880, [712, 61, 710, 711]), (6, 171, 0, mX7_cutBehind, 872, [492, 62, 490, 491]), (6, 174, 0, mX7_put, 873, [876, 62, 874, 875]), (6, 178, 0, mX5_learnSame, 885, [888, 63, 886, 887]), (6, 182, 0, mX6_commitWhatMostKnow, 889, [892, 57, 891, 12]), (6, 186, 0, mX5_learnClock, 898, [901, 63, 899, 900]), (6, 189, 0, mX6_renewLease, 902, [905, 57, 904, 13]), (6, 192, 0, mX5_knowing, 893, [896, 63, 894, 895]), (6, 195, 0, mX10_most, 897, [852, 55, 850, 851]), (6, 205, 0, mX5_clockOf, 906, [909, 63, 907, 908]), (7, 3, 4, mX0_init, 301, []), (7, 21, 0, mX7_at, 823, [826, 62, 824, 825]), (7, 34, 0, mX7_isOutdone, 1043, [1046, 62, 1045, 21]), (7, 38, 6, mX0_init, 587, []), (7, 47, 0, mX3_isLike, 588, [591, 74, 589, 590]), (7, 51, 0, mX3_outdoes, 1047, [1050, 74, 1048, 1049]), (8, 3, 4, mX0_init, 295, []), (8, 11, 3, mX7_init, 298, [300, 62, 299]), (8, 20, 3, mX5_init, 315, [317, 63, 316]), (8, 35, 3, mX2_init, 350, [352, 64, 351]), (8, 65, 0, mX7_cutBehind, 489, [492, 62, 490, 491]), (8, 69, 0, mX8_follow, 493, [496, 61, 494, 495]), (8, 72, 0, mX2_renew, 497, [500, 64, 498, 499]), (8, 75, 0, mX2_dropProposal, 704, [504, 64, 502, 503]), (8, 78, 0, mX8_promise, 709, [712, 61, 710, 711]), (8, 91, 0, mX7_termAt, 819, [822, 62, 820, 821]), (8, 100, 0, mX8_hasPromised, 815, [818, 61, 816, 817]), (8, 114, 6, mX0_init, 580, []), (8, 120, 0, mX7_isLikeUpTo, 583, [586, 62, 584, 585]), (9, 3, 4, mX0_init, 97, []), (9, 59, 0, mX7_at, 1008, [826, 62, 824, 825]), (10, 3, 4, mX0_init, 90, []), (10, 21, 3, mX9_init, 94, [96, 56, 95]), (10, 39, 1, mJ6_bitCount_0f7a4, 843, [845, 72, 844])]
def crT_2 : List (Nat × Nat × Nat × MI × Nat × List Nat) := [(10, 45, 0, mX10_most, 849, [852, 55, 850, 851]), (10, 49, 0, mX9_start, 831, [834, 56, 832, 833]), (10, 53, 0, mX10_isCut, 725, [728, 55, 726, 727]), (11, 1, 4, mX0_init, 80, []), (11, 17, 2, mX10_init, 87, [89, 55, 88]), (11, 24, 2, mX6_init, 199, [201, 57, 200]), (11, 33, 2, mX1_init, 220, [222, 58, 221]), (11, 40, 2, mX4_init, 233, [235, 59, 234]), (11, 45, 2, mX8_init, 292, [294, 61, 293]), (11, 48, 0, mX11_renew, 468, [471, 54, 470, 0]), (11, 62, 0, mX11_needMachine, 676, [679, 54, 678, 4]), (11, 66, 0, mX4_goOn, 696, [699, 59, 697, 698]), (11, 73, 0, mX8_crash, 700, [703, 61, 701, 702]), (11, 80, 0, mX8_rise, 705, [708, 61, 706, 707]), (11, 86, 0, mX10_switchCut, 721, [724, 55, 722, 723]), (11, 90, 1, mX11_needRange, 736, [738, 54, 737]), (11, 109, 0, mX8_letPass, 757, [760, 61, 758, 759]), (11, 112, 0, mX11_needMessage, 769, [772, 54, 771, 5]), (11, 124, 0, mX10_isCut, 778, [728, 55, 726, 727]), (11, 132, 0, mX10_takeOut, 795, [798, 55, 796, 797]), (11, 141, 0, mX6_hear, 799, [802, 57, 800, 801]), (11, 145, 0, mX1_hear, 918, [921, 58, 919, 920]), (11, 146, 0, mX4_answerWrites, 952, [955, 59, 953, 954]), (11, 156, 0, mX10_send, 974, [830, 55, 828, 829]), (11, 160, 0, mX9_copyRest, 975, [978, 56, 976, 977]), (11, 166, 0, mX8_hasPromised, 986, [818, 61, 816, 817]), (11, 172, 0, mX6_letStand, 988, [991, 57, 989, 990]), (11, 178, 0, mX6_letBeat, 1000, [1003, 57, 1001, 1002]), (11, 187, 0, mX4_findWrite, 1017, [1020, 59, 1018, 1019]), (11, 202, 0, mX7_isFull, 1022, [1025, 62, 1023, 1024]), (11, 207, 0, mX4_isFull, 1026, [1029, 59, 1027, 1028]), (11, 210, 0, mX4_addWrite, 1031, [1034, 59, 1032, 1033]), (11, 213, 0, mX7_hasSerial, 1039, [1042, 62, 1040, 1041]), (11, 218, 2, mX3_init, 1053, [1055, 74, 1054]), (11, 221, 0, mX7_put, 1079, [876, 62, 874, 875]), (11, 225, 0, mX7_numberOf, 1080, [959, 62, 957, 958]), (11, 229, 0, mX8_holdsLease, 536, [539, 61, 537, 538]), (11, 232, 0, mX8_agreedInItsTerm, 1088, [1091, 61, 1089, 1090]), (11, 240, 0, mX7_valueUpTo, 1093, [1096, 62, 1094, 1095]), (11, 244, 0, mX4_addRead, 1097, [1100, 59, 1098, 1099])]
def crT_3 : List (Nat × Nat × Nat × MI × Nat × List Nat) := [(11, 247, 0, mX11_needChoice, 1108, [1111, 54, 1110, 22]), (11, 253, 0, mX1_letPropose, 1114, [1117, 58, 1115, 1116]), (11, 272, 0, mX7_at, 1148, [826, 62, 824, 825]), (11, 314, 0, mX4_at, 1179, [1182, 59, 1180, 1181]), (11, 328, 0, mX4_hasOneOrder, 548, [551, 59, 549, 550]), (11, 331, 0, mX8_agreesWith, 576, [579, 61, 577, 578]), (11, 335, 0, mX10_renew, 472, [475, 55, 473, 474]), (11, 336, 0, mX6_renew, 476, [479, 57, 477, 478]), (11, 338, 0, mX4_renew, 481, [484, 59, 482, 483]), (11, 339, 0, mX8_renew, 485, [488, 61, 486, 487]), (11, 350, 0, mX10_at, 773, [776, 55, 774, 775]), (12, 1, 4, mX0_init, 1189, []), (12, 147, 0, mX12_begins, 1191, [1194, 65, 1193, 23]), (12, 154, 1, mX12_in, 1369, [1371, 65, 1370]), (12, 173, 0, mX12_goes, 1357, [1360, 65, 1359, 24]), (12, 177, 0, mX12_isAgreedAt, 1380, [1383, 65, 1382, 28]), (12, 181, 0, mX12_isMachine, 1365, [1368, 65, 1367, 25]), (12, 184, 0, mX12_follows, 1372, [1375, 65, 1374, 26]), (12, 187, 0, mX12_ends, 1376, [1379, 65, 1378, 27]), (12, 195, 0, mX12_isMessage, 1406, [1409, 65, 1408, 29]), (12, 198, 0, mX12_leaves, 1410, [1413, 65, 1412, 30]), (12, 201, 0, mX12_asked, 1422, [1425, 65, 1424, 31]), (12, 204, 0, mX12_voted, 1438, [1441, 65, 1440, 35]), (12, 207, 0, mX12_appended, 1449, [1452, 65, 1451, 37]), (12, 211, 0, mX12_acknowledged, 1457, [1460, 65, 1459, 39]), (12, 214, 0, mX12_prepared, 1469, [1472, 65, 1471, 42]), (12, 217, 0, mX12_promised, 1473, [1476, 65, 1475, 43]), (12, 220, 0, mX12_accepted, 1477, [1480, 65, 1479, 44]), (12, 223, 0, mX12_counts, 1481, [1484, 65, 1483, 45]), (12, 226, 0, mX12_promises, 1430, [1433, 65, 1432, 33]), (12, 229, 0, mX12_sends, 1434, [1437, 65, 1436, 34]), (12, 233, 0, mX12_termAt, 1426, [1429, 65, 1428, 32]), (12, 237, 1, mX12_bits, 1442, [1444, 65, 1443]), (12, 241, 0, mX12_most, 1445, [1448, 65, 1447, 36]), (12, 245, 0, mX12_acks, 1453, [1456, 65, 1455, 38]), (12, 249, 0, mX12_rankedSame, 1461, [1464, 65, 1463, 40]), (12, 252, 0, mX12_leases, 1465, [1468, 65, 1467, 41]), (12, 254, 0, mX12_actOf, 1497, [1500, 65, 1499, 46]), (12, 257, 0, mX12_acts, 1501, [1504, 65, 1503, 47]), (12, 260, 0, mX12_entryOf, 1505, [1508, 65, 1507, 48])]
def crT_4 : List (Nat × Nat × Nat × MI × Nat × List Nat) := [(12, 264, 0, mX12_holdsLease, 1513, [1516, 65, 1515, 49]), (12, 267, 0, mX12_valueOf, 1517, [1520, 65, 1519, 50]), (12, 271, 0, mX12_mayCome, 1574, [1577, 65, 1576, 51]), (12, 275, 0, mX12_areAlike, 1582, [1585, 65, 1584, 52]), (13, 7, 0, mX11_begin, 596, [599, 54, 597, 598]), (13, 15, 0, mX11_toggle, 672, [675, 54, 673, 674]), (13, 21, 0, mX11_cut, 716, [719, 54, 717, 718]), (13, 25, 0, mX11_rate, 732, [735, 54, 733, 734]), (13, 29, 0, mX11_spans, 744, [747, 54, 745, 746]), (13, 33, 0, mX11_pass, 753, [756, 54, 754, 755]), (13, 37, 0, mX11_deliver, 765, [768, 54, 766, 767]), (13, 42, 0, mX11_lose, 963, [966, 54, 964, 965]), (13, 45, 0, mX11_twice, 970, [973, 54, 971, 972]), (13, 48, 0, mX11_stand, 982, [985, 54, 983, 984]), (13, 51, 0, mX11_beat, 995, [998, 54, 996, 997]), (13, 54, 0, mX11_request, 1012, [1015, 54, 1013, 1014]), (13, 58, 0, mX11_read, 1084, [1087, 54, 1085, 1086]), (13, 61, 0, mX11_propose, 1104, [1107, 54, 1105, 1106]), (13, 65, 0, mX11_message, 1129, [1132, 54, 1130, 1131]), (13, 69, 0, mX11_of, 1137, [1140, 54, 1138, 1139]), (13, 72, 0, mX11_entry, 1144, [1147, 54, 1145, 1146]), (13, 75, 0, mX11_clock, 1153, [1156, 54, 1154, 1155]), (13, 78, 0, mX11_lease, 1160, [1163, 54, 1161, 1162]), (13, 81, 0, mX11_decision, 1168, [1171, 54, 1169, 1170]), (13, 84, 0, mX11_act, 1175, [1178, 54, 1176, 1177]), (13, 87, 2, mX11_init, 77, [79, 54, 78]), (13, 90, 2, mX12_init, 1186, [1188, 65, 1187]), (13, 91, 1, mL_begin, 592, [594, 53, 593]), (13, 96, 0, mX12_begin, 1353, [1356, 65, 1354, 1355]), (13, 97, 0, mX12_thrown, 1349, [1352, 65, 1350, 1351]), (13, 101, 1, mL_toggle, 668, [670, 53, 669]), (13, 103, 0, mX12_toggle, 1361, [1364, 65, 1362, 1363]), (13, 104, 1, mL_cut, 713, [715, 53, 714]), (13, 107, 0, mX12_cut, 1384, [1387, 65, 1385, 1386]), (13, 108, 1, mL_rate, 729, [731, 53, 730]), (13, 111, 0, mX12_rate, 1388, [1391, 65, 1389, 1390]), (13, 112, 1, mL_spans, 741, [743, 53, 742]), (13, 115, 0, mX12_spans, 1393, [1396, 65, 1394, 1395]), (13, 116, 1, mL_pass, 750, [752, 53, 751]), (13, 119, 0, mX12_pass, 1398, [1401, 65, 1399, 1400])]
def crT_5 : List (Nat × Nat × Nat × MI × Nat × List Nat) := [(13, 120, 1, mL_deliver, 761, [763, 53, 762]), (13, 122, 0, mX12_deliver, 1418, [1421, 65, 1419, 1420]), (13, 123, 1, mL_lose, 960, [962, 53, 961]), (13, 125, 0, mX12_lose, 1402, [1405, 65, 1403, 1404]), (13, 126, 1, mL_twice, 967, [969, 53, 968]), (13, 128, 0, mX12_twice, 1414, [1417, 65, 1415, 1416]), (13, 129, 1, mL_stand, 979, [981, 53, 980]), (13, 131, 0, mX12_stand, 1485, [1488, 65, 1486, 1487]), (13, 132, 1, mL_beat, 992, [994, 53, 993]), (13, 134, 0, mX12_beat, 1489, [1492, 65, 1490, 1491]), (13, 135, 1, mL_request, 1009, [1011, 53, 1010]), (13, 138, 0, mX12_request, 1493, [1496, 65, 1494, 1495]), (13, 139, 1, mL_read, 1081, [1083, 53, 1082]), (13, 141, 0, mX12_read, 1509, [1512, 65, 1510, 1511]), (13, 142, 1, mL_propose, 1101, [1103, 53, 1102]), (13, 145, 0, mX12_propose, 1521, [1524, 65, 1522, 1523]), (13, 146, 0, mX11_steps, 524, [527, 54, 525, 526]), (13, 149, 0, mX12_steps, 1525, [1528, 65, 1526, 1527]), (13, 150, 0, mX11_messages, 528, [531, 54, 529, 530]), (13, 153, 0, mX12_messages, 1529, [1532, 65, 1530, 1531]), (13, 154, 1, mL_message, 1126, [1128, 53, 1127]), (13, 156, 0, mX12_message, 1533, [1536, 65, 1534, 1535]), (13, 157, 1, mL_of, 1134, [1136, 53, 1135]), (13, 159, 0, mX12_of, 1537, [1540, 65, 1538, 1539]), (13, 160, 1, mL_entry, 1141, [1143, 53, 1142]), (13, 162, 0, mX12_entry, 1541, [1544, 65, 1542, 1543]), (13, 163, 1, mL_clock, 1150, [1152, 53, 1151]), (13, 165, 0, mX12_clock, 1545, [1548, 65, 1546, 1547]), (13, 166, 1, mL_lease, 1157, [1159, 53, 1158]), (13, 168, 0, mX12_lease, 1549, [1552, 65, 1550, 1551]), (13, 169, 0, mX11_leases, 532, [535, 54, 533, 534]), (13, 172, 0, mX12_leases_, 1554, [1557, 65, 1555, 1556]), (13, 173, 1, mL_decision, 1165, [1167, 53, 1166]), (13, 175, 0, mX12_decision, 1558, [1561, 65, 1559, 1560]), (13, 176, 0, mX11_acts, 540, [543, 54, 541, 542]), (13, 179, 0, mX12_acts_, 1562, [1565, 65, 1563, 1564]), (13, 180, 1, mL_act, 1172, [1174, 53, 1173]), (13, 182, 0, mX12_act, 1566, [1569, 65, 1567, 1568]), (13, 183, 0, mX11_isInOrder, 544, [547, 54, 545, 546]), (13, 187, 0, mX12_isInOrder, 1570, [1573, 65, 1571, 1572])]
def crT_6 : List (Nat × Nat × Nat × MI × Nat × List Nat) := [(13, 188, 0, mX11_isAgreed, 572, [575, 54, 573, 574]), (13, 191, 0, mX12_isAgreed, 1578, [1581, 65, 1579, 1580])]
def crT : List (Nat × Nat × Nat × MI × Nat × List Nat) := crT_0 ++ (crT_1 ++ (crT_2 ++ (crT_3 ++ (crT_4 ++ (crT_5 ++ (crT_6))))))
def cres (oc i : Nat) : Option (Nat × MI) := (crT.find? (fun q => q.1 == oc && q.2.1 == i)).map (fun q => (q.2.2.1, q.2.2.2.1))
/-! ===== what one instruction does ===== -/
abbrev Lo : Type := List (Option Value)
/-- an end: an answer, or an exception by its number -/
abbrev Out : Type := Option Value ⊕ Nat
abbrev SR : Type := (Nat × Lo × List Value × HP) ⊕ ((MI × List Value × List Value) ⊕ (Out × HP))
def go (pc : Nat) (ls : Lo) (st : List Value) (h : HP) : Option SR := some (.inl (pc, ls, st, h))
def gL (b : Bool) (r : Option SR) : Option SR := if b = true then r else none
def jmp (pc : Nat) (off : Int) : Nat := ((pc : Int) + off).toNat
def jok (pc : Nat) (off : Int) : Bool := decide (0 ≤ (pc : Int) + off)
def nn32 (r : UInt32) : Bool := decide (r &&& 0x7fffffff ≤ 0x7f800000)
def nn64 (r : UInt64) : Bool := decide (r &&& 0x7fffffffffffffff ≤ 0x7ff0000000000000)
def isZ (x : Int32) : Bool := decide (x = 0) || decide (x = 1)
def inA (h : HP) (a : Nat) (i : Int32) : Bool := decide (0 ≤ i) && decide (i.toNatClampNeg < hL h a)
def c1 (v : Value) : Bool := match v with
  | .long _ => false
  | .double _ => false
  | _ => true
def ldI (ls : Lo) (k pc len w : Nat) (st : List Value) (h : HP) : Option SR := gL (len == w) (match ls[k]? with
  | some (some (.int x)) => go (pc + w) ls (.int x :: st) h
  | _ => none)
def ldF (ls : Lo) (k pc len w : Nat) (st : List Value) (h : HP) : Option SR := gL (len == w) (match ls[k]? with
  | some (some (.float x)) => go (pc + w) ls (.float x :: st) h
  | _ => none)
def ldA (ls : Lo) (k pc len w : Nat) (st : List Value) (h : HP) : Option SR := gL (len == w) (match ls[k]? with
  | some (some (.ref x)) => go (pc + w) ls (.ref x :: st) h
  | _ => none)
def stI (ls : Lo) (k pc len w : Nat) (st : List Value) (h : HP) : Option SR := gL (len == w && decide (k < ls.length)) (match st with
  | .int x :: r => go (pc + w) (ls.set k (some (.int x))) r h
  | _ => none)
def stF (ls : Lo) (k pc len w : Nat) (st : List Value) (h : HP) : Option SR := gL (len == w && decide (k < ls.length)) (match st with
  | .float x :: r => go (pc + w) (ls.set k (some (.float x))) r h
  | _ => none)
def stA (ls : Lo) (k pc len w : Nat) (st : List Value) (h : HP) : Option SR := gL (len == w && decide (k < ls.length)) (match st with
  | .ref x :: r => go (pc + w) (ls.set k (some (.ref x))) r h
  | _ => none)
def ii2 (f : Int32 → Int32 → Int32) (pc len : Nat) (ls : Lo) (st : List Value) (h : HP) : Option SR := gL (len == 1) (match st with
  | .int y :: .int x :: r => go (pc + 1) ls (.int (f x y) :: r) h
  | _ => none)
def ff2 (f : UInt32 → UInt32 → UInt32) (pc len : Nat) (ls : Lo) (st : List Value) (h : HP) : Option SR := gL (len == 1) (match st with
  | .float y :: .float x :: r => gL (nn32 (f x y)) (go (pc + 1) ls (.float (f x y) :: r) h)
  | _ => none)
def br (c : Prop) [Decidable c] (pc : Nat) (off : Int) (ls : Lo) (st : List Value) (h : HP) : Option SR := gL (jok pc off) (if c then go (jmp pc off) ls st h else go (pc + 3) ls st h)
def fvl (h : HP) (ci k a : Nat) : Option Value := match ftyp ci k with
  | 0 => some (.int (hI h (100 * ci + k) a))
  | 1 => some (.float (hF h (100 * ci + k) a))
  | 2 => some (.ref (hR h (100 * ci + k) a))
  | 3 => some (.int (hI h (100 * ci + k) a))
  | _ => none
def fsv (h : HP) (ci k a : Nat) (v : Value) : Option HP := match ftyp ci k, v with
  | 0, .int x => some (sI h (100 * ci + k) a x)
  | 3, .int x => if isZ x = true then some (sI h (100 * ci + k) a x) else none
  | 1, .float x => some (sF h (100 * ci + k) a x)
  | 2, .ref x => some (sR h (100 * ci + k) a x)
  | _, _ => none
/-- a call: the arguments off the stack, the first one first; the stack below -/
def cll (y : MI) (k : Nat) (st : List Value) : Option SR := gL (decide (k ≤ st.length) && decide (st.length ≤ k + 4) && (st.all c1)) (some (.inr (.inl (y, (st.take k).reverse, st.drop k))))
def rok (t : Option FieldType) (v : Option Value) : Bool := match t, v with
  | some .int, some (.int _) => true
  | some .boolean, some (.int x) => isZ x
  | some .float, some (.float _) => true
  | some (.object _), some (.ref _) => true
  | none, none => true
  | _, _ => false
def stpR (y : MI) (i : Instr) (len pc : Nat) (ls : Lo) (st : List Value) (h : HP) : Option SR := match i with
  | .iconst n => gL (len == 1) (go (pc + 1) ls (.int (Int32.ofInt n) :: st) h)
  | .bipush n => gL (len == 2) (go (pc + 2) ls (.int (Int8.ofInt n).toInt32 :: st) h)
  | .sipush n => gL (len == 3) (go (pc + 3) ls (.int (Int16.ofInt n).toInt32 :: st) h)
  | .lconst n => gL (len == 1) (go (pc + 1) ls (.long (Int64.ofNat (n : Nat)) :: st) h)
  | .fconst n => gL (len == 1) (if n = 0 then go (pc + 1) ls (.float FP.fconst0 :: st) h else if n = 1 then go (pc + 1) ls (.float FP.fconst1 :: st) h else none)
  | .aconst_null => gL (len == 1) (go (pc + 1) ls (.ref 0 :: st) h)
  | .iload k => ldI ls k pc len 2 st h
  | .iload_n k => ldI ls k pc len 1 st h
  | .fload k => ldF ls k pc len 2 st h
  | .fload_n k => ldF ls k pc len 1 st h
  | .aload k => ldA ls k pc len 2 st h
  | .aload_n k => ldA ls k pc len 1 st h
  | .istore k => stI ls k pc len 2 st h
  | .istore_n k => stI ls k pc len 1 st h
  | .fstore k => stF ls k pc len 2 st h
  | .fstore_n k => stF ls k pc len 1 st h
  | .astore k => stA ls k pc len 2 st h
  | .astore_n k => stA ls k pc len 1 st h
  | .iinc k n => gL (len == 3) (match ls[k]? with
    | some (some (.int x)) => go (pc + 3) (ls.set k (some (.int (x + Int32.ofInt n)))) st h
    | _ => none)
  | .iadd => ii2 (fun x y => x + y) pc len ls st h
  | .isub => ii2 (fun x y => x - y) pc len ls st h
  | .imul => ii2 (fun x y => x * y) pc len ls st h
  | .iand => ii2 (fun x y => x &&& y) pc len ls st h
  | .ior => ii2 (fun x y => x ||| y) pc len ls st h
  | .ixor => ii2 (fun x y => x ^^^ y) pc len ls st h
  | .ishl => ii2 (fun x y => x <<< (y &&& 31)) pc len ls st h
  | .ishr => ii2 (fun x y => x >>> (y &&& 31)) pc len ls st h
  | .iushr => ii2 (fun x y => (x.toUInt32 >>> (y.toUInt32 &&& Int32.toUInt32 31)).toInt32) pc len ls st h
  | .idiv => gL (len == 1) (match st with
    | .int y :: .int x :: r => if y = 0 then none else go (pc + 1) ls (.int (x / y) :: r) h
    | _ => none)
  | .fadd => ff2 FP.fadd pc len ls st h
  | .fsub => ff2 FP.fsub pc len ls st h
  | .fmul => ff2 FP.fmul pc len ls st h
  | .fdiv => ff2 FP.fdiv pc len ls st h
  | .fcmp op => gL (len == 1) (match st with
    | .float y :: .float x :: r => go (pc + 1) ls (.int (Op.cmpValue (FP.fcmp x y) op) :: r) h
    | _ => none)
  | .dcmp op => gL (len == 1) (match st with
    | .double y :: .double x :: r => go (pc + 1) ls (.int (Op.cmpValue (FP.dcmp x y) op) :: r) h
    | _ => none)
  | .lcmp => gL (len == 1) (match st with
    | .long y :: .long x :: r => go (pc + 1) ls (.int (lg_cmp x y) :: r) h
    | _ => none)
  | .i2l => gL (len == 1) (match st with
    | .int x :: r => go (pc + 1) ls (.long x.toInt64 :: r) h
    | _ => none)
  | .i2f => gL (len == 1) (match st with
    | .int x :: r => go (pc + 1) ls (.float (FP.i2f x) :: r) h
    | _ => none)
  | .f2d => gL (len == 1) (match st with
    | .float x :: r => gL (nn64 (FP.f2d x)) (go (pc + 1) ls (.double (FP.f2d x) :: r) h)
    | _ => none)
  | .dup => gL (len == 1) (match st with
    | v :: r => gL (c1 v) (go (pc + 1) ls (v :: v :: r) h)
    | _ => none)
  | .dup2 => gL (len == 1) (match st with
    | v :: w :: r => gL (c1 v && c1 w) (go (pc + 1) ls (v :: w :: v :: w :: r) h)
    | _ => none)
  | .pop => gL (len == 1) (match st with
    | v :: r => gL (c1 v) (go (pc + 1) ls r h)
    | _ => none)
  | .ifCond c off => gL (len == 3) (match st with
    | .int x :: r => (match c with
      | .eq => br (x = 0) pc off ls r h
      | .ne => br (¬ x = 0) pc off ls r h
      | .lt => br (x < 0) pc off ls r h
      | .ge => br (0 ≤ x) pc off ls r h
      | .gt => br (0 < x) pc off ls r h
      | .le => br (x ≤ 0) pc off ls r h)
    | _ => none)
  | .if_icmp c off => gL (len == 3) (match st with
    | .int y :: .int x :: r => (match c with
      | .eq => br (x = y) pc off ls r h
      | .ne => br (¬ x = y) pc off ls r h
      | .lt => br (x < y) pc off ls r h
      | .ge => br (y ≤ x) pc off ls r h
      | .gt => br (y < x) pc off ls r h
      | .le => br (x ≤ y) pc off ls r h)
    | _ => none)
  | .ifnull off => gL (len == 3) (match st with
    | .ref a :: r => br (a = 0) pc off ls r h
    | _ => none)
  | .ifnonnull off => gL (len == 3) (match st with
    | .ref a :: r => br (¬ a = 0) pc off ls r h
    | _ => none)
  | .goto off => gL (len == 3 && jok pc off) (go (jmp pc off) ls st h)
  | .tableswitch d lo hi offs => (match st with
    | .int x :: r => if x.toInt < lo ∨ hi < x.toInt then gL (jok pc d) (go (jmp pc d) ls r h) else (match offs[(x.toInt - lo).toNat]? with
      | some off => gL (jok pc off) (go (jmp pc off) ls r h)
      | none => none)
    | _ => none)
  | .iaload => gL (len == 1) (match st with
    | .int i :: .ref a :: r => gL ((hK h a == 20 || hK h a == 19) && inA h a i) (go (pc + 1) ls (.int (hAI h a i.toNatClampNeg) :: r) h)
    | _ => none)
  | .baload => gL (len == 1) (match st with
    | .int i :: .ref a :: r => gL (hK h a == 21 && inA h a i) (go (pc + 1) ls (.int (hAI h a i.toNatClampNeg) :: r) h)
    | _ => none)
  | .faload => gL (len == 1) (match st with
    | .int i :: .ref a :: r => gL (hK h a == 22 && inA h a i) (go (pc + 1) ls (.float (hAF h a i.toNatClampNeg) :: r) h)
    | _ => none)
  | .laload => gL (len == 1) (match st with
    | .int i :: .ref a :: r => gL (hK h a == 23 && inA h a i) (go (pc + 1) ls (.long (hAL h a i.toNatClampNeg) :: r) h)
    | _ => none)
  | .daload => gL (len == 1) (match st with
    | .int i :: .ref a :: r => gL (hK h a == 24 && inA h a i) (go (pc + 1) ls (.double (hAD h a i.toNatClampNeg) :: r) h)
    | _ => none)
  | .aaload => gL (len == 1) (match st with
    | .int i :: .ref a :: r => gL (decide (25 ≤ hK h a) && decide (hK h a ≤ 29) && inA h a i) (go (pc + 1) ls (.ref (hAR h a i.toNatClampNeg) :: r) h)
    | _ => none)
  | .iastore => gL (len == 1) (match st with
    | .int x :: .int i :: .ref a :: r => gL (hK h a == 20 && inA h a i) (go (pc + 1) ls r (sAI h a i.toNatClampNeg x))
    | _ => none)
  | .bastore => gL (len == 1) (match st with
    | .int x :: .int i :: .ref a :: r => gL (hK h a == 21 && inA h a i && isZ x) (go (pc + 1) ls r (sAI h a i.toNatClampNeg x))
    | _ => none)
  | .fastore => gL (len == 1) (match st with
    | .float x :: .int i :: .ref a :: r => gL (hK h a == 22 && inA h a i) (go (pc + 1) ls r (sAF h a i.toNatClampNeg x))
    | _ => none)
  | .lastore => gL (len == 1) (match st with
    | .long x :: .int i :: .ref a :: r => gL (hK h a == 23 && inA h a i) (go (pc + 1) ls r (sAL h a i.toNatClampNeg x))
    | _ => none)
  | .dastore => gL (len == 1) (match st with
    | .double x :: .int i :: .ref a :: r => gL (hK h a == 24 && inA h a i) (go (pc + 1) ls r (sAD h a i.toNatClampNeg x))
    | _ => none)
  | .aastore => gL (len == 1) (match st with
    | .ref v :: .int i :: .ref a :: r => gL (decide (25 ≤ hK h a) && decide (hK h a ≤ 29) && inA h a i && (decide (v ≠ 0) && decide (1 < v) && hK h v == acl (hK h a - 25))) (go (pc + 1) ls r (sAR h a i.toNatClampNeg v))
    | _ => none)
  | .arraylength => gL (len == 1) (match st with
    | .ref a :: r => gL (decide (19 ≤ hK h a) && decide (hK h a ≤ 29)) (go (pc + 1) ls (.int (Int32.ofNat (hL h a)) :: r) h)
    | _ => none)
  | .getfield j => gL (len == 3) (match st with
    | .ref a :: r => (match fres (mOwn y) j with
      | some (ci, k) => gL (hK h a == ci) (match fvl h ci k a with
        | some v => go (pc + 3) ls (v :: r) h
        | none => none)
      | none => none)
    | _ => none)
  | .putfield j => gL (len == 3) (match st with
    | v :: .ref a :: r => (match fres (mOwn y) j with
      | some (ci, k) => gL (hK h a == ci && (!(ffin ci k) || (mIni y && mOwn y == ci))) (match fsv h ci k a v with
        | some h1 => go (pc + 3) ls r h1
        | none => none)
      | none => none)
    | _ => none)
  | .new j => gL (len == 3) (match nres (mOwn y) j with
    | some ci => go (pc + 3) ls (.ref (hN h) :: st) (nw h ci 0 (nfld ci))
    | none => (match decode (mCode y) (pc + 3), decode (mCode y) (pc + 4), decode (mCode y) (pc + 6), decode (mCode y) (pc + 9) with
      | .ok (.dup, 1), .ok (.ldc k, 2), .ok (.invokespecial q, 3), .ok (.athrow, 1) => (match xres (mOwn y) j q k with
        | some e => gL (decide (st.length ≤ 4) && st.all c1 && (mHH y).isEmpty) (some (.inr (.inr (.inr e, thr h))))
        | none => none)
      | _, _, _, _ => none))
  | .newarray t => gL (len == 2) (match st with
    | .int n :: r => gL (decide (0 ≤ n) && decide (n.toNatClampNeg ≤ 20000)) (match t with
      | .int => go (pc + 2) ls (.ref (hN h) :: r) (nw h 20 n.toNatClampNeg n.toNatClampNeg)
      | .boolean => go (pc + 2) ls (.ref (hN h) :: r) (nw h 21 n.toNatClampNeg n.toNatClampNeg)
      | .float => go (pc + 2) ls (.ref (hN h) :: r) (nw h 22 n.toNatClampNeg n.toNatClampNeg)
      | .long => go (pc + 2) ls (.ref (hN h) :: r) (nw h 23 n.toNatClampNeg n.toNatClampNeg)
      | .double => go (pc + 2) ls (.ref (hN h) :: r) (nw h 24 n.toNatClampNeg n.toNatClampNeg)
      | _ => none)
    | _ => none)
  | .anewarray j => gL (len == 3) (match st with
    | .int n :: r => gL (decide (0 ≤ n) && decide (n.toNatClampNeg ≤ 20000)) (match ares (mOwn y) j with
      | some t => go (pc + 3) ls (.ref (hN h) :: r) (nw h (25 + t) n.toNatClampNeg n.toNatClampNeg)
      | none => none)
    | _ => none)
  | .ldc j => gL (len == 2) (match lres (mOwn y) j with
    | some v => go (pc + 2) ls (v :: st) h
    | none => none)
  | .ldc_w j => gL (len == 3) (match lres (mOwn y) j with
    | some v => go (pc + 3) ls (v :: st) h
    | none => none)
  | .invokevirtual j => gL (len == 3) (match cres (mOwn y) j with
    | some (0, z) => (match st[mNa z]? with
      | some (.ref b) => gL (decide (1 < b) && hK h b == mOwn z) (cll z (mNa z + 1) st)
      | _ => none)
    | _ => none)
  | .invokestatic j => gL (len == 3) (match cres (mOwn y) j with
    | some (1, z) => cll z (mNa z) st
    | some (5, _) => (match st with
      | .int y :: .int x :: r => gL (decide (r.length ≤ 4) && r.all c1) (go (pc + 3) ls (.int (if x < y then y else x) :: r) h)
      | _ => none)
    | some (6, _) => (match st with
      | .int y :: .int x :: r => gL (decide (r.length ≤ 4) && r.all c1) (go (pc + 3) ls (.int (if y < x then y else x) :: r) h)
      | _ => none)
    | _ => none)
  | .invokespecial j => gL (len == 3) (match cres (mOwn y) j with
    | some (2, z) => (match st[mNa z]? with
      | some (.ref b) => gL (decide (1 < b)) (cll z (mNa z + 1) st)
      | _ => none)
    | some (3, z) => (match st[mNa z]? with
      | some (.ref b) => gL (decide (1 < b)) (cll z (mNa z + 1) st)
      | _ => none)
    | some (4, _) => (match st with
      | .ref b :: r => gL (decide (1 < b) && decide (r.length ≤ 4) && r.all c1) (go (pc + 3) ls r h)
      | _ => none)
    | _ => none)
  | .ireturn => gL (len == 1) (match st with
    | [.int x] => gL (rok (mRet y) (some (.int x))) (some (.inr (.inr (.inl (some (.int x)), h))))
    | _ => none)
  | .freturn => gL (len == 1) (match st with
    | [.float x] => gL (rok (mRet y) (some (.float x))) (some (.inr (.inr (.inl (some (.float x)), h))))
    | _ => none)
  | .areturn => gL (len == 1) (match st with
    | [.ref x] => gL (rok (mRet y) (some (.ref x))) (some (.inr (.inr (.inl (some (.ref x)), h))))
    | _ => none)
  | .return_ => gL (len == 1) (match st with
    | [] => gL (rok (mRet y) none) (some (.inr (.inr (.inl none, h))))
    | _ => none)
  | _ => none
/-- locals at the entry -/
def ent (y : MI) (as : List Value) : Lo := as.map some ++ List.replicate (mML y - as.length) none
/-- behind a call that threw: the handler, whose first act is to put the exception by -/
def hdl (y : MI) (pc e : Nat) (ls : Lo) : Option (Nat × Lo) := match hnd y pc e with
  | none => none
  | some q => (match decode (mCode y) q with
    | .ok (.astore k, 2) => if k < ls.length then some (q + 2, ls.set k none) else none
    | .ok (.astore_n k, 1) => if (k : Nat) < ls.length then some (q + 1, ls.set k none) else none
    | _ => none)
def ex : Nat → Nat → MI → Nat → Lo → List Value → HP → Option (Out × HP)
  | 0, _, _, _, _, _, _ => none
  | n + 1, d, y, pc, ls, st, h => match decode (mCode y) pc with
    | .error _ => none
    | .ok (i, len) => (match stpR y i len pc ls st h with
      | none => none
      | some (.inl (pc', ls', st', h')) => ex n d y pc' ls' st' h'
      | some (.inr (.inr r)) => some r
      | some (.inr (.inl (z, as, rest))) => (match d with
        | 0 => none
        | d' + 1 => if as.length ≤ mML z then (match ex n d' z 0 (ent z as) [] h with
          | none => none
          | some (.inl v, h') => ex n (d' + 1) y (pc + 3) ls (v.toList ++ rest) h'
          | some (.inr e, h') => (match hnd y pc e with
            | none => if (mHH y).isEmpty = true then some (.inr e, h') else none
            | some _ => (match hdl y pc e ls with
              | some (pc', ls') => ex n (d' + 1) y pc' ls' [] h'
              | none => none))) else none))
/-- more fuel, the same end -/
theorem ex_mono : ∀ (n d : Nat) (y : MI) (pc : Nat) (ls : Lo) (st : List Value) (h : HP) (r : Out × HP), ex n d y pc ls st h = some r → ex (n + 1) d y pc ls st h = some r := by
  intro n
  induction n with
  | zero => intro d y pc ls st h r hr; simp [ex] at hr
  | succ n ih =>
    intro d y pc ls st h r hr
    rw [ex] at hr
    rw [ex]
    cases hd : decode (mCode y) pc with
    | error e => rw [hd] at hr; simp at hr
    | ok il =>
      obtain ⟨i, len⟩ := il
      rw [hd] at hr
      simp only at hr ⊢
      cases hs : stpR y i len pc ls st h with
      | none => rw [hs] at hr; simp at hr
      | some sr =>
        rw [hs] at hr
        rcases sr with ⟨pc', ls', st', h'⟩ | ⟨z, as, rest⟩ | r'
        · simp only at hr ⊢
          exact ih _ _ _ _ _ _ _ hr
        · simp only at hr ⊢
          cases d with
          | zero => simp at hr
          | succ d' =>
            simp only at hr ⊢
            by_cases hl : as.length ≤ mML z
            · rw [if_pos hl] at hr ⊢
              cases hc : ex n d' z 0 (ent z as) [] h with
              | none => rw [hc] at hr; simp at hr
              | some q =>
                rw [hc] at hr
                rw [ih _ _ _ _ _ _ _ hc]
                obtain ⟨o, h'⟩ := q
                rcases o with v | e
                · simp only at hr ⊢
                  exact ih _ _ _ _ _ _ _ hr
                · simp only at hr ⊢
                  cases hh : hnd y pc e with
                  | none => rw [hh] at hr; simpa using hr
                  | some q0 =>
                    rw [hh] at hr
                    simp only at hr ⊢
                    cases hq : hdl y pc e ls with
                    | none => rw [hq] at hr; simp at hr
                    | some pl =>
                      rw [hq] at hr
                      obtain ⟨pc', ls'⟩ := pl
                      simp only at hr ⊢
                      exact ih _ _ _ _ _ _ _ hr
            · rw [if_neg hl] at hr; simp at hr
        · simpa using hr
theorem ex_le {n m d : Nat} {y : MI} {pc : Nat} {ls : Lo} {st : List Value} {h : HP} {r : Out × HP} (hnm : n ≤ m) (hr : ex n d y pc ls st h = some r) : ex m d y pc ls st h = some r := by
  obtain ⟨k, rfl⟩ := Nat.exists_eq_add_of_le hnm
  clear hnm
  induction k with
  | zero => exact hr
  | succ k ih => exact ex_mono _ _ _ _ _ _ _ _ ih

