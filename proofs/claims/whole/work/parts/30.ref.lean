/-! THE REFERENCE OBJECT: its shape; projections of changed heaps -/
theorem fJ_setFI (h : AH) (f a : Nat) (v : Int32) : fJ (setFI h f a v) = fJ h := rfl
theorem fP_setFI (h : AH) (f a : Nat) (v : Int32) : fP (setFI h f a v) = fP h := rfl
theorem aI_setFI (h : AH) (f a : Nat) (v : Int32) : aI (setFI h f a v) = aI h := rfl
theorem aJ_setFI (h : AH) (f a : Nat) (v : Int32) : aJ (setFI h f a v) = aJ h := rfl
theorem aP_setFI (h : AH) (f a : Nat) (v : Int32) : aP (setFI h f a v) = aP h := rfl
theorem tg_setFI (h : AH) (f a : Nat) (v : Int32) : tg (setFI h f a v) = tg h := rfl
theorem ln_setFI (h : AH) (f a : Nat) (v : Int32) : ln (setFI h f a v) = ln h := rfl
theorem tp_setFI (h : AH) (f a : Nat) (v : Int32) : tp (setFI h f a v) = tp h := rfl
theorem rc_setFI (h : AH) (f a : Nat) (v : Int32) : rc (setFI h f a v) = rc h := rfl
theorem rs_setFI (h : AH) (f a : Nat) (v : Int32) : rs (setFI h f a v) = rs h := rfl
theorem fI_setFJ (h : AH) (f a : Nat) (v : Int64) : fI (setFJ h f a v) = fI h := rfl
theorem fP_setFJ (h : AH) (f a : Nat) (v : Int64) : fP (setFJ h f a v) = fP h := rfl
theorem aI_setFJ (h : AH) (f a : Nat) (v : Int64) : aI (setFJ h f a v) = aI h := rfl
theorem aJ_setFJ (h : AH) (f a : Nat) (v : Int64) : aJ (setFJ h f a v) = aJ h := rfl
theorem aP_setFJ (h : AH) (f a : Nat) (v : Int64) : aP (setFJ h f a v) = aP h := rfl
theorem tg_setFJ (h : AH) (f a : Nat) (v : Int64) : tg (setFJ h f a v) = tg h := rfl
theorem ln_setFJ (h : AH) (f a : Nat) (v : Int64) : ln (setFJ h f a v) = ln h := rfl
theorem tp_setFJ (h : AH) (f a : Nat) (v : Int64) : tp (setFJ h f a v) = tp h := rfl
theorem rc_setFJ (h : AH) (f a : Nat) (v : Int64) : rc (setFJ h f a v) = rc h := rfl
theorem rs_setFJ (h : AH) (f a : Nat) (v : Int64) : rs (setFJ h f a v) = rs h := rfl
theorem fI_setFP (h : AH) (f a : Nat) (v : Option Nat) : fI (setFP h f a v) = fI h := rfl
theorem fJ_setFP (h : AH) (f a : Nat) (v : Option Nat) : fJ (setFP h f a v) = fJ h := rfl
theorem aI_setFP (h : AH) (f a : Nat) (v : Option Nat) : aI (setFP h f a v) = aI h := rfl
theorem aJ_setFP (h : AH) (f a : Nat) (v : Option Nat) : aJ (setFP h f a v) = aJ h := rfl
theorem aP_setFP (h : AH) (f a : Nat) (v : Option Nat) : aP (setFP h f a v) = aP h := rfl
theorem tg_setFP (h : AH) (f a : Nat) (v : Option Nat) : tg (setFP h f a v) = tg h := rfl
theorem ln_setFP (h : AH) (f a : Nat) (v : Option Nat) : ln (setFP h f a v) = ln h := rfl
theorem tp_setFP (h : AH) (f a : Nat) (v : Option Nat) : tp (setFP h f a v) = tp h := rfl
theorem rc_setFP (h : AH) (f a : Nat) (v : Option Nat) : rc (setFP h f a v) = rc h := rfl
theorem rs_setFP (h : AH) (f a : Nat) (v : Option Nat) : rs (setFP h f a v) = rs h := rfl
theorem fI_setAI (h : AH) (a i : Nat) (v : Int32) : fI (setAI h a i v) = fI h := rfl
theorem fJ_setAI (h : AH) (a i : Nat) (v : Int32) : fJ (setAI h a i v) = fJ h := rfl
theorem fP_setAI (h : AH) (a i : Nat) (v : Int32) : fP (setAI h a i v) = fP h := rfl
theorem aJ_setAI (h : AH) (a i : Nat) (v : Int32) : aJ (setAI h a i v) = aJ h := rfl
theorem aP_setAI (h : AH) (a i : Nat) (v : Int32) : aP (setAI h a i v) = aP h := rfl
theorem tg_setAI (h : AH) (a i : Nat) (v : Int32) : tg (setAI h a i v) = tg h := rfl
theorem ln_setAI (h : AH) (a i : Nat) (v : Int32) : ln (setAI h a i v) = ln h := rfl
theorem tp_setAI (h : AH) (a i : Nat) (v : Int32) : tp (setAI h a i v) = tp h := rfl
theorem rc_setAI (h : AH) (a i : Nat) (v : Int32) : rc (setAI h a i v) = rc h := rfl
theorem rs_setAI (h : AH) (a i : Nat) (v : Int32) : rs (setAI h a i v) = rs h := rfl
theorem fI_setAJ (h : AH) (a i : Nat) (v : Int64) : fI (setAJ h a i v) = fI h := rfl
theorem fJ_setAJ (h : AH) (a i : Nat) (v : Int64) : fJ (setAJ h a i v) = fJ h := rfl
theorem fP_setAJ (h : AH) (a i : Nat) (v : Int64) : fP (setAJ h a i v) = fP h := rfl
theorem aI_setAJ (h : AH) (a i : Nat) (v : Int64) : aI (setAJ h a i v) = aI h := rfl
theorem aP_setAJ (h : AH) (a i : Nat) (v : Int64) : aP (setAJ h a i v) = aP h := rfl
theorem tg_setAJ (h : AH) (a i : Nat) (v : Int64) : tg (setAJ h a i v) = tg h := rfl
theorem ln_setAJ (h : AH) (a i : Nat) (v : Int64) : ln (setAJ h a i v) = ln h := rfl
theorem tp_setAJ (h : AH) (a i : Nat) (v : Int64) : tp (setAJ h a i v) = tp h := rfl
theorem rc_setAJ (h : AH) (a i : Nat) (v : Int64) : rc (setAJ h a i v) = rc h := rfl
theorem rs_setAJ (h : AH) (a i : Nat) (v : Int64) : rs (setAJ h a i v) = rs h := rfl
theorem fI_setAP (h : AH) (a i : Nat) (v : Option Nat) : fI (setAP h a i v) = fI h := rfl
theorem fJ_setAP (h : AH) (a i : Nat) (v : Option Nat) : fJ (setAP h a i v) = fJ h := rfl
theorem fP_setAP (h : AH) (a i : Nat) (v : Option Nat) : fP (setAP h a i v) = fP h := rfl
theorem aI_setAP (h : AH) (a i : Nat) (v : Option Nat) : aI (setAP h a i v) = aI h := rfl
theorem aJ_setAP (h : AH) (a i : Nat) (v : Option Nat) : aJ (setAP h a i v) = aJ h := rfl
theorem tg_setAP (h : AH) (a i : Nat) (v : Option Nat) : tg (setAP h a i v) = tg h := rfl
theorem ln_setAP (h : AH) (a i : Nat) (v : Option Nat) : ln (setAP h a i v) = ln h := rfl
theorem tp_setAP (h : AH) (a i : Nat) (v : Option Nat) : tp (setAP h a i v) = tp h := rfl
theorem rc_setAP (h : AH) (a i : Nat) (v : Option Nat) : rc (setAP h a i v) = rc h := rfl
theorem rs_setAP (h : AH) (a i : Nat) (v : Option Nat) : rs (setAP h a i v) = rs h := rfl
theorem fI_setFI (h : AH) (f a : Nat) (v : Int32) (g b : Nat) : fI (setFI h f a v) g b = if g = f ∧ b = a then v else fI h g b := rfl
theorem fJ_setFJ (h : AH) (f a : Nat) (v : Int64) (g b : Nat) : fJ (setFJ h f a v) g b = if g = f ∧ b = a then v else fJ h g b := rfl
theorem fP_setFP (h : AH) (f a : Nat) (v : Option Nat) (g b : Nat) : fP (setFP h f a v) g b = if g = f ∧ b = a then v else fP h g b := rfl
theorem aI_setAI (h : AH) (a i : Nat) (v : Int32) (g b : Nat) : aI (setAI h a i v) g b = if g = a ∧ b = i then v else aI h g b := rfl
theorem aJ_setAJ (h : AH) (a i : Nat) (v : Int64) (g b : Nat) : aJ (setAJ h a i v) g b = if g = a ∧ b = i then v else aJ h g b := rfl
theorem aP_setAP (h : AH) (a i : Nat) (v : Option Nat) (g b : Nat) : aP (setAP h a i v) g b = if g = a ∧ b = i then v else aP h g b := rfl
def refA : List (Nat × Nat × Nat × Nat) := [(31400, 1, 101, 2000), (31403, 2, 101, 2), (31404, 3, 102, 32), (31405, 4, 101, 32), (31406, 5, 101, 32), (31407, 6, 102, 32), (31408, 7, 101, 32), (31409, 8, 101, 2), (31410, 9, 102, 24), (31411, 10, 101, 24), (31412, 11, 102, 24), (31413, 12, 101, 24), (31414, 13, 104, 24), (31415, 14, 101, 24), (31416, 15, 102, 96), (31417, 16, 101, 96), (31418, 17, 101, 24), (31419, 18, 101, 2), (31420, 19, 101, 240), (31421, 20, 101, 240), (31422, 21, 101, 240), (31423, 22, 101, 240), (31424, 23, 101, 240), (31425, 24, 102, 240), (31426, 25, 101, 240), (31427, 26, 101, 240), (31428, 27, 101, 240), (31429, 28, 101, 240), (31430, 29, 101, 240), (31431, 30, 102, 960), (31432, 31, 101, 960), (31433, 32, 101, 240), (31434, 33, 101, 960), (31435, 34, 102, 960), (31436, 35, 101, 960), (31437, 36, 101, 960), (31438, 37, 102, 3840), (31439, 38, 101, 3840), (31440, 39, 101, 2), (31441, 40, 101, 2048), (31442, 41, 101, 2048), (31443, 42, 101, 2048), (31444, 43, 101, 2048), (31445, 44, 101, 2048), (31446, 45, 101, 2048), (31456, 46, 101, 9), (31458, 47, 101, 240), (31459, 48, 104, 240), (31461, 49, 101, 4000), (31462, 50, 101, 4000), (31463, 51, 101, 4000), (31470, 52, 101, 16), (31471, 53, 101, 16), (31472, 54, 101, 16), (31473, 55, 101, 16), (31474, 56, 101, 960)]
def RS (h : AH) (a : Nat) : Prop := tg h a = 15 ∧ ∀ q ∈ refA, fP h q.1 a = some (a + q.2.1) ∧ tg h (a + q.2.1) = q.2.2.1 ∧ ln h (a + q.2.1) = q.2.2.2
theorem RS.p31400 {h : AH} {a : Nat} (hs : RS h a) : fP h 31400 a = some (a + 1) := (hs.2 (31400, 1, 101, 2000) (by decide)).1
theorem RS.t31400 {h : AH} {a : Nat} (hs : RS h a) : tg h (a + 1) = 101 := (hs.2 (31400, 1, 101, 2000) (by decide)).2.1
theorem RS.l31400 {h : AH} {a : Nat} (hs : RS h a) : ln h (a + 1) = 2000 := (hs.2 (31400, 1, 101, 2000) (by decide)).2.2
theorem RS.p31403 {h : AH} {a : Nat} (hs : RS h a) : fP h 31403 a = some (a + 2) := (hs.2 (31403, 2, 101, 2) (by decide)).1
theorem RS.t31403 {h : AH} {a : Nat} (hs : RS h a) : tg h (a + 2) = 101 := (hs.2 (31403, 2, 101, 2) (by decide)).2.1
theorem RS.l31403 {h : AH} {a : Nat} (hs : RS h a) : ln h (a + 2) = 2 := (hs.2 (31403, 2, 101, 2) (by decide)).2.2
theorem RS.p31404 {h : AH} {a : Nat} (hs : RS h a) : fP h 31404 a = some (a + 3) := (hs.2 (31404, 3, 102, 32) (by decide)).1
theorem RS.t31404 {h : AH} {a : Nat} (hs : RS h a) : tg h (a + 3) = 102 := (hs.2 (31404, 3, 102, 32) (by decide)).2.1
theorem RS.l31404 {h : AH} {a : Nat} (hs : RS h a) : ln h (a + 3) = 32 := (hs.2 (31404, 3, 102, 32) (by decide)).2.2
theorem RS.p31405 {h : AH} {a : Nat} (hs : RS h a) : fP h 31405 a = some (a + 4) := (hs.2 (31405, 4, 101, 32) (by decide)).1
theorem RS.t31405 {h : AH} {a : Nat} (hs : RS h a) : tg h (a + 4) = 101 := (hs.2 (31405, 4, 101, 32) (by decide)).2.1
theorem RS.l31405 {h : AH} {a : Nat} (hs : RS h a) : ln h (a + 4) = 32 := (hs.2 (31405, 4, 101, 32) (by decide)).2.2
theorem RS.p31406 {h : AH} {a : Nat} (hs : RS h a) : fP h 31406 a = some (a + 5) := (hs.2 (31406, 5, 101, 32) (by decide)).1
theorem RS.t31406 {h : AH} {a : Nat} (hs : RS h a) : tg h (a + 5) = 101 := (hs.2 (31406, 5, 101, 32) (by decide)).2.1
theorem RS.l31406 {h : AH} {a : Nat} (hs : RS h a) : ln h (a + 5) = 32 := (hs.2 (31406, 5, 101, 32) (by decide)).2.2
theorem RS.p31407 {h : AH} {a : Nat} (hs : RS h a) : fP h 31407 a = some (a + 6) := (hs.2 (31407, 6, 102, 32) (by decide)).1
theorem RS.t31407 {h : AH} {a : Nat} (hs : RS h a) : tg h (a + 6) = 102 := (hs.2 (31407, 6, 102, 32) (by decide)).2.1
theorem RS.l31407 {h : AH} {a : Nat} (hs : RS h a) : ln h (a + 6) = 32 := (hs.2 (31407, 6, 102, 32) (by decide)).2.2
theorem RS.p31408 {h : AH} {a : Nat} (hs : RS h a) : fP h 31408 a = some (a + 7) := (hs.2 (31408, 7, 101, 32) (by decide)).1
theorem RS.t31408 {h : AH} {a : Nat} (hs : RS h a) : tg h (a + 7) = 101 := (hs.2 (31408, 7, 101, 32) (by decide)).2.1
theorem RS.l31408 {h : AH} {a : Nat} (hs : RS h a) : ln h (a + 7) = 32 := (hs.2 (31408, 7, 101, 32) (by decide)).2.2
theorem RS.p31409 {h : AH} {a : Nat} (hs : RS h a) : fP h 31409 a = some (a + 8) := (hs.2 (31409, 8, 101, 2) (by decide)).1
theorem RS.t31409 {h : AH} {a : Nat} (hs : RS h a) : tg h (a + 8) = 101 := (hs.2 (31409, 8, 101, 2) (by decide)).2.1
theorem RS.l31409 {h : AH} {a : Nat} (hs : RS h a) : ln h (a + 8) = 2 := (hs.2 (31409, 8, 101, 2) (by decide)).2.2
theorem RS.p31410 {h : AH} {a : Nat} (hs : RS h a) : fP h 31410 a = some (a + 9) := (hs.2 (31410, 9, 102, 24) (by decide)).1
theorem RS.t31410 {h : AH} {a : Nat} (hs : RS h a) : tg h (a + 9) = 102 := (hs.2 (31410, 9, 102, 24) (by decide)).2.1
theorem RS.l31410 {h : AH} {a : Nat} (hs : RS h a) : ln h (a + 9) = 24 := (hs.2 (31410, 9, 102, 24) (by decide)).2.2
theorem RS.p31411 {h : AH} {a : Nat} (hs : RS h a) : fP h 31411 a = some (a + 10) := (hs.2 (31411, 10, 101, 24) (by decide)).1
theorem RS.t31411 {h : AH} {a : Nat} (hs : RS h a) : tg h (a + 10) = 101 := (hs.2 (31411, 10, 101, 24) (by decide)).2.1
theorem RS.l31411 {h : AH} {a : Nat} (hs : RS h a) : ln h (a + 10) = 24 := (hs.2 (31411, 10, 101, 24) (by decide)).2.2
theorem RS.p31412 {h : AH} {a : Nat} (hs : RS h a) : fP h 31412 a = some (a + 11) := (hs.2 (31412, 11, 102, 24) (by decide)).1
theorem RS.t31412 {h : AH} {a : Nat} (hs : RS h a) : tg h (a + 11) = 102 := (hs.2 (31412, 11, 102, 24) (by decide)).2.1
theorem RS.l31412 {h : AH} {a : Nat} (hs : RS h a) : ln h (a + 11) = 24 := (hs.2 (31412, 11, 102, 24) (by decide)).2.2
theorem RS.p31413 {h : AH} {a : Nat} (hs : RS h a) : fP h 31413 a = some (a + 12) := (hs.2 (31413, 12, 101, 24) (by decide)).1
theorem RS.t31413 {h : AH} {a : Nat} (hs : RS h a) : tg h (a + 12) = 101 := (hs.2 (31413, 12, 101, 24) (by decide)).2.1
theorem RS.l31413 {h : AH} {a : Nat} (hs : RS h a) : ln h (a + 12) = 24 := (hs.2 (31413, 12, 101, 24) (by decide)).2.2
theorem RS.p31414 {h : AH} {a : Nat} (hs : RS h a) : fP h 31414 a = some (a + 13) := (hs.2 (31414, 13, 104, 24) (by decide)).1
theorem RS.t31414 {h : AH} {a : Nat} (hs : RS h a) : tg h (a + 13) = 104 := (hs.2 (31414, 13, 104, 24) (by decide)).2.1
theorem RS.l31414 {h : AH} {a : Nat} (hs : RS h a) : ln h (a + 13) = 24 := (hs.2 (31414, 13, 104, 24) (by decide)).2.2
theorem RS.p31415 {h : AH} {a : Nat} (hs : RS h a) : fP h 31415 a = some (a + 14) := (hs.2 (31415, 14, 101, 24) (by decide)).1
theorem RS.t31415 {h : AH} {a : Nat} (hs : RS h a) : tg h (a + 14) = 101 := (hs.2 (31415, 14, 101, 24) (by decide)).2.1
theorem RS.l31415 {h : AH} {a : Nat} (hs : RS h a) : ln h (a + 14) = 24 := (hs.2 (31415, 14, 101, 24) (by decide)).2.2
theorem RS.p31416 {h : AH} {a : Nat} (hs : RS h a) : fP h 31416 a = some (a + 15) := (hs.2 (31416, 15, 102, 96) (by decide)).1
theorem RS.t31416 {h : AH} {a : Nat} (hs : RS h a) : tg h (a + 15) = 102 := (hs.2 (31416, 15, 102, 96) (by decide)).2.1
theorem RS.l31416 {h : AH} {a : Nat} (hs : RS h a) : ln h (a + 15) = 96 := (hs.2 (31416, 15, 102, 96) (by decide)).2.2
theorem RS.p31417 {h : AH} {a : Nat} (hs : RS h a) : fP h 31417 a = some (a + 16) := (hs.2 (31417, 16, 101, 96) (by decide)).1
theorem RS.t31417 {h : AH} {a : Nat} (hs : RS h a) : tg h (a + 16) = 101 := (hs.2 (31417, 16, 101, 96) (by decide)).2.1
theorem RS.l31417 {h : AH} {a : Nat} (hs : RS h a) : ln h (a + 16) = 96 := (hs.2 (31417, 16, 101, 96) (by decide)).2.2
theorem RS.p31418 {h : AH} {a : Nat} (hs : RS h a) : fP h 31418 a = some (a + 17) := (hs.2 (31418, 17, 101, 24) (by decide)).1
theorem RS.t31418 {h : AH} {a : Nat} (hs : RS h a) : tg h (a + 17) = 101 := (hs.2 (31418, 17, 101, 24) (by decide)).2.1
theorem RS.l31418 {h : AH} {a : Nat} (hs : RS h a) : ln h (a + 17) = 24 := (hs.2 (31418, 17, 101, 24) (by decide)).2.2
theorem RS.p31419 {h : AH} {a : Nat} (hs : RS h a) : fP h 31419 a = some (a + 18) := (hs.2 (31419, 18, 101, 2) (by decide)).1
theorem RS.t31419 {h : AH} {a : Nat} (hs : RS h a) : tg h (a + 18) = 101 := (hs.2 (31419, 18, 101, 2) (by decide)).2.1
theorem RS.l31419 {h : AH} {a : Nat} (hs : RS h a) : ln h (a + 18) = 2 := (hs.2 (31419, 18, 101, 2) (by decide)).2.2
theorem RS.p31420 {h : AH} {a : Nat} (hs : RS h a) : fP h 31420 a = some (a + 19) := (hs.2 (31420, 19, 101, 240) (by decide)).1
theorem RS.t31420 {h : AH} {a : Nat} (hs : RS h a) : tg h (a + 19) = 101 := (hs.2 (31420, 19, 101, 240) (by decide)).2.1
theorem RS.l31420 {h : AH} {a : Nat} (hs : RS h a) : ln h (a + 19) = 240 := (hs.2 (31420, 19, 101, 240) (by decide)).2.2
theorem RS.p31421 {h : AH} {a : Nat} (hs : RS h a) : fP h 31421 a = some (a + 20) := (hs.2 (31421, 20, 101, 240) (by decide)).1
theorem RS.t31421 {h : AH} {a : Nat} (hs : RS h a) : tg h (a + 20) = 101 := (hs.2 (31421, 20, 101, 240) (by decide)).2.1
theorem RS.l31421 {h : AH} {a : Nat} (hs : RS h a) : ln h (a + 20) = 240 := (hs.2 (31421, 20, 101, 240) (by decide)).2.2
theorem RS.p31422 {h : AH} {a : Nat} (hs : RS h a) : fP h 31422 a = some (a + 21) := (hs.2 (31422, 21, 101, 240) (by decide)).1
theorem RS.t31422 {h : AH} {a : Nat} (hs : RS h a) : tg h (a + 21) = 101 := (hs.2 (31422, 21, 101, 240) (by decide)).2.1
theorem RS.l31422 {h : AH} {a : Nat} (hs : RS h a) : ln h (a + 21) = 240 := (hs.2 (31422, 21, 101, 240) (by decide)).2.2
theorem RS.p31423 {h : AH} {a : Nat} (hs : RS h a) : fP h 31423 a = some (a + 22) := (hs.2 (31423, 22, 101, 240) (by decide)).1
theorem RS.t31423 {h : AH} {a : Nat} (hs : RS h a) : tg h (a + 22) = 101 := (hs.2 (31423, 22, 101, 240) (by decide)).2.1
theorem RS.l31423 {h : AH} {a : Nat} (hs : RS h a) : ln h (a + 22) = 240 := (hs.2 (31423, 22, 101, 240) (by decide)).2.2
theorem RS.p31424 {h : AH} {a : Nat} (hs : RS h a) : fP h 31424 a = some (a + 23) := (hs.2 (31424, 23, 101, 240) (by decide)).1
theorem RS.t31424 {h : AH} {a : Nat} (hs : RS h a) : tg h (a + 23) = 101 := (hs.2 (31424, 23, 101, 240) (by decide)).2.1
theorem RS.l31424 {h : AH} {a : Nat} (hs : RS h a) : ln h (a + 23) = 240 := (hs.2 (31424, 23, 101, 240) (by decide)).2.2
theorem RS.p31425 {h : AH} {a : Nat} (hs : RS h a) : fP h 31425 a = some (a + 24) := (hs.2 (31425, 24, 102, 240) (by decide)).1
theorem RS.t31425 {h : AH} {a : Nat} (hs : RS h a) : tg h (a + 24) = 102 := (hs.2 (31425, 24, 102, 240) (by decide)).2.1
theorem RS.l31425 {h : AH} {a : Nat} (hs : RS h a) : ln h (a + 24) = 240 := (hs.2 (31425, 24, 102, 240) (by decide)).2.2
theorem RS.p31426 {h : AH} {a : Nat} (hs : RS h a) : fP h 31426 a = some (a + 25) := (hs.2 (31426, 25, 101, 240) (by decide)).1
theorem RS.t31426 {h : AH} {a : Nat} (hs : RS h a) : tg h (a + 25) = 101 := (hs.2 (31426, 25, 101, 240) (by decide)).2.1
theorem RS.l31426 {h : AH} {a : Nat} (hs : RS h a) : ln h (a + 25) = 240 := (hs.2 (31426, 25, 101, 240) (by decide)).2.2
theorem RS.p31427 {h : AH} {a : Nat} (hs : RS h a) : fP h 31427 a = some (a + 26) := (hs.2 (31427, 26, 101, 240) (by decide)).1
theorem RS.t31427 {h : AH} {a : Nat} (hs : RS h a) : tg h (a + 26) = 101 := (hs.2 (31427, 26, 101, 240) (by decide)).2.1
theorem RS.l31427 {h : AH} {a : Nat} (hs : RS h a) : ln h (a + 26) = 240 := (hs.2 (31427, 26, 101, 240) (by decide)).2.2
theorem RS.p31428 {h : AH} {a : Nat} (hs : RS h a) : fP h 31428 a = some (a + 27) := (hs.2 (31428, 27, 101, 240) (by decide)).1
theorem RS.t31428 {h : AH} {a : Nat} (hs : RS h a) : tg h (a + 27) = 101 := (hs.2 (31428, 27, 101, 240) (by decide)).2.1
theorem RS.l31428 {h : AH} {a : Nat} (hs : RS h a) : ln h (a + 27) = 240 := (hs.2 (31428, 27, 101, 240) (by decide)).2.2
theorem RS.p31429 {h : AH} {a : Nat} (hs : RS h a) : fP h 31429 a = some (a + 28) := (hs.2 (31429, 28, 101, 240) (by decide)).1
theorem RS.t31429 {h : AH} {a : Nat} (hs : RS h a) : tg h (a + 28) = 101 := (hs.2 (31429, 28, 101, 240) (by decide)).2.1
theorem RS.l31429 {h : AH} {a : Nat} (hs : RS h a) : ln h (a + 28) = 240 := (hs.2 (31429, 28, 101, 240) (by decide)).2.2
theorem RS.p31430 {h : AH} {a : Nat} (hs : RS h a) : fP h 31430 a = some (a + 29) := (hs.2 (31430, 29, 101, 240) (by decide)).1
theorem RS.t31430 {h : AH} {a : Nat} (hs : RS h a) : tg h (a + 29) = 101 := (hs.2 (31430, 29, 101, 240) (by decide)).2.1
theorem RS.l31430 {h : AH} {a : Nat} (hs : RS h a) : ln h (a + 29) = 240 := (hs.2 (31430, 29, 101, 240) (by decide)).2.2
theorem RS.p31431 {h : AH} {a : Nat} (hs : RS h a) : fP h 31431 a = some (a + 30) := (hs.2 (31431, 30, 102, 960) (by decide)).1
theorem RS.t31431 {h : AH} {a : Nat} (hs : RS h a) : tg h (a + 30) = 102 := (hs.2 (31431, 30, 102, 960) (by decide)).2.1
theorem RS.l31431 {h : AH} {a : Nat} (hs : RS h a) : ln h (a + 30) = 960 := (hs.2 (31431, 30, 102, 960) (by decide)).2.2
theorem RS.p31432 {h : AH} {a : Nat} (hs : RS h a) : fP h 31432 a = some (a + 31) := (hs.2 (31432, 31, 101, 960) (by decide)).1
theorem RS.t31432 {h : AH} {a : Nat} (hs : RS h a) : tg h (a + 31) = 101 := (hs.2 (31432, 31, 101, 960) (by decide)).2.1
theorem RS.l31432 {h : AH} {a : Nat} (hs : RS h a) : ln h (a + 31) = 960 := (hs.2 (31432, 31, 101, 960) (by decide)).2.2
theorem RS.p31433 {h : AH} {a : Nat} (hs : RS h a) : fP h 31433 a = some (a + 32) := (hs.2 (31433, 32, 101, 240) (by decide)).1
theorem RS.t31433 {h : AH} {a : Nat} (hs : RS h a) : tg h (a + 32) = 101 := (hs.2 (31433, 32, 101, 240) (by decide)).2.1
theorem RS.l31433 {h : AH} {a : Nat} (hs : RS h a) : ln h (a + 32) = 240 := (hs.2 (31433, 32, 101, 240) (by decide)).2.2
theorem RS.p31434 {h : AH} {a : Nat} (hs : RS h a) : fP h 31434 a = some (a + 33) := (hs.2 (31434, 33, 101, 960) (by decide)).1
theorem RS.t31434 {h : AH} {a : Nat} (hs : RS h a) : tg h (a + 33) = 101 := (hs.2 (31434, 33, 101, 960) (by decide)).2.1
theorem RS.l31434 {h : AH} {a : Nat} (hs : RS h a) : ln h (a + 33) = 960 := (hs.2 (31434, 33, 101, 960) (by decide)).2.2
theorem RS.p31435 {h : AH} {a : Nat} (hs : RS h a) : fP h 31435 a = some (a + 34) := (hs.2 (31435, 34, 102, 960) (by decide)).1
theorem RS.t31435 {h : AH} {a : Nat} (hs : RS h a) : tg h (a + 34) = 102 := (hs.2 (31435, 34, 102, 960) (by decide)).2.1
theorem RS.l31435 {h : AH} {a : Nat} (hs : RS h a) : ln h (a + 34) = 960 := (hs.2 (31435, 34, 102, 960) (by decide)).2.2
theorem RS.p31436 {h : AH} {a : Nat} (hs : RS h a) : fP h 31436 a = some (a + 35) := (hs.2 (31436, 35, 101, 960) (by decide)).1
theorem RS.t31436 {h : AH} {a : Nat} (hs : RS h a) : tg h (a + 35) = 101 := (hs.2 (31436, 35, 101, 960) (by decide)).2.1
theorem RS.l31436 {h : AH} {a : Nat} (hs : RS h a) : ln h (a + 35) = 960 := (hs.2 (31436, 35, 101, 960) (by decide)).2.2
theorem RS.p31437 {h : AH} {a : Nat} (hs : RS h a) : fP h 31437 a = some (a + 36) := (hs.2 (31437, 36, 101, 960) (by decide)).1
theorem RS.t31437 {h : AH} {a : Nat} (hs : RS h a) : tg h (a + 36) = 101 := (hs.2 (31437, 36, 101, 960) (by decide)).2.1
theorem RS.l31437 {h : AH} {a : Nat} (hs : RS h a) : ln h (a + 36) = 960 := (hs.2 (31437, 36, 101, 960) (by decide)).2.2
theorem RS.p31438 {h : AH} {a : Nat} (hs : RS h a) : fP h 31438 a = some (a + 37) := (hs.2 (31438, 37, 102, 3840) (by decide)).1
theorem RS.t31438 {h : AH} {a : Nat} (hs : RS h a) : tg h (a + 37) = 102 := (hs.2 (31438, 37, 102, 3840) (by decide)).2.1
theorem RS.l31438 {h : AH} {a : Nat} (hs : RS h a) : ln h (a + 37) = 3840 := (hs.2 (31438, 37, 102, 3840) (by decide)).2.2
theorem RS.p31439 {h : AH} {a : Nat} (hs : RS h a) : fP h 31439 a = some (a + 38) := (hs.2 (31439, 38, 101, 3840) (by decide)).1
theorem RS.t31439 {h : AH} {a : Nat} (hs : RS h a) : tg h (a + 38) = 101 := (hs.2 (31439, 38, 101, 3840) (by decide)).2.1
theorem RS.l31439 {h : AH} {a : Nat} (hs : RS h a) : ln h (a + 38) = 3840 := (hs.2 (31439, 38, 101, 3840) (by decide)).2.2
theorem RS.p31440 {h : AH} {a : Nat} (hs : RS h a) : fP h 31440 a = some (a + 39) := (hs.2 (31440, 39, 101, 2) (by decide)).1
theorem RS.t31440 {h : AH} {a : Nat} (hs : RS h a) : tg h (a + 39) = 101 := (hs.2 (31440, 39, 101, 2) (by decide)).2.1
theorem RS.l31440 {h : AH} {a : Nat} (hs : RS h a) : ln h (a + 39) = 2 := (hs.2 (31440, 39, 101, 2) (by decide)).2.2
theorem RS.p31441 {h : AH} {a : Nat} (hs : RS h a) : fP h 31441 a = some (a + 40) := (hs.2 (31441, 40, 101, 2048) (by decide)).1
theorem RS.t31441 {h : AH} {a : Nat} (hs : RS h a) : tg h (a + 40) = 101 := (hs.2 (31441, 40, 101, 2048) (by decide)).2.1
theorem RS.l31441 {h : AH} {a : Nat} (hs : RS h a) : ln h (a + 40) = 2048 := (hs.2 (31441, 40, 101, 2048) (by decide)).2.2
theorem RS.p31442 {h : AH} {a : Nat} (hs : RS h a) : fP h 31442 a = some (a + 41) := (hs.2 (31442, 41, 101, 2048) (by decide)).1
theorem RS.t31442 {h : AH} {a : Nat} (hs : RS h a) : tg h (a + 41) = 101 := (hs.2 (31442, 41, 101, 2048) (by decide)).2.1
theorem RS.l31442 {h : AH} {a : Nat} (hs : RS h a) : ln h (a + 41) = 2048 := (hs.2 (31442, 41, 101, 2048) (by decide)).2.2
theorem RS.p31443 {h : AH} {a : Nat} (hs : RS h a) : fP h 31443 a = some (a + 42) := (hs.2 (31443, 42, 101, 2048) (by decide)).1
theorem RS.t31443 {h : AH} {a : Nat} (hs : RS h a) : tg h (a + 42) = 101 := (hs.2 (31443, 42, 101, 2048) (by decide)).2.1
theorem RS.l31443 {h : AH} {a : Nat} (hs : RS h a) : ln h (a + 42) = 2048 := (hs.2 (31443, 42, 101, 2048) (by decide)).2.2
theorem RS.p31444 {h : AH} {a : Nat} (hs : RS h a) : fP h 31444 a = some (a + 43) := (hs.2 (31444, 43, 101, 2048) (by decide)).1
theorem RS.t31444 {h : AH} {a : Nat} (hs : RS h a) : tg h (a + 43) = 101 := (hs.2 (31444, 43, 101, 2048) (by decide)).2.1
theorem RS.l31444 {h : AH} {a : Nat} (hs : RS h a) : ln h (a + 43) = 2048 := (hs.2 (31444, 43, 101, 2048) (by decide)).2.2
theorem RS.p31445 {h : AH} {a : Nat} (hs : RS h a) : fP h 31445 a = some (a + 44) := (hs.2 (31445, 44, 101, 2048) (by decide)).1
theorem RS.t31445 {h : AH} {a : Nat} (hs : RS h a) : tg h (a + 44) = 101 := (hs.2 (31445, 44, 101, 2048) (by decide)).2.1
theorem RS.l31445 {h : AH} {a : Nat} (hs : RS h a) : ln h (a + 44) = 2048 := (hs.2 (31445, 44, 101, 2048) (by decide)).2.2
theorem RS.p31446 {h : AH} {a : Nat} (hs : RS h a) : fP h 31446 a = some (a + 45) := (hs.2 (31446, 45, 101, 2048) (by decide)).1
theorem RS.t31446 {h : AH} {a : Nat} (hs : RS h a) : tg h (a + 45) = 101 := (hs.2 (31446, 45, 101, 2048) (by decide)).2.1
theorem RS.l31446 {h : AH} {a : Nat} (hs : RS h a) : ln h (a + 45) = 2048 := (hs.2 (31446, 45, 101, 2048) (by decide)).2.2
theorem RS.p31456 {h : AH} {a : Nat} (hs : RS h a) : fP h 31456 a = some (a + 46) := (hs.2 (31456, 46, 101, 9) (by decide)).1
theorem RS.t31456 {h : AH} {a : Nat} (hs : RS h a) : tg h (a + 46) = 101 := (hs.2 (31456, 46, 101, 9) (by decide)).2.1
theorem RS.l31456 {h : AH} {a : Nat} (hs : RS h a) : ln h (a + 46) = 9 := (hs.2 (31456, 46, 101, 9) (by decide)).2.2
theorem RS.p31458 {h : AH} {a : Nat} (hs : RS h a) : fP h 31458 a = some (a + 47) := (hs.2 (31458, 47, 101, 240) (by decide)).1
theorem RS.t31458 {h : AH} {a : Nat} (hs : RS h a) : tg h (a + 47) = 101 := (hs.2 (31458, 47, 101, 240) (by decide)).2.1
theorem RS.l31458 {h : AH} {a : Nat} (hs : RS h a) : ln h (a + 47) = 240 := (hs.2 (31458, 47, 101, 240) (by decide)).2.2
theorem RS.p31459 {h : AH} {a : Nat} (hs : RS h a) : fP h 31459 a = some (a + 48) := (hs.2 (31459, 48, 104, 240) (by decide)).1
theorem RS.t31459 {h : AH} {a : Nat} (hs : RS h a) : tg h (a + 48) = 104 := (hs.2 (31459, 48, 104, 240) (by decide)).2.1
theorem RS.l31459 {h : AH} {a : Nat} (hs : RS h a) : ln h (a + 48) = 240 := (hs.2 (31459, 48, 104, 240) (by decide)).2.2
theorem RS.p31461 {h : AH} {a : Nat} (hs : RS h a) : fP h 31461 a = some (a + 49) := (hs.2 (31461, 49, 101, 4000) (by decide)).1
theorem RS.t31461 {h : AH} {a : Nat} (hs : RS h a) : tg h (a + 49) = 101 := (hs.2 (31461, 49, 101, 4000) (by decide)).2.1
theorem RS.l31461 {h : AH} {a : Nat} (hs : RS h a) : ln h (a + 49) = 4000 := (hs.2 (31461, 49, 101, 4000) (by decide)).2.2
theorem RS.p31462 {h : AH} {a : Nat} (hs : RS h a) : fP h 31462 a = some (a + 50) := (hs.2 (31462, 50, 101, 4000) (by decide)).1
theorem RS.t31462 {h : AH} {a : Nat} (hs : RS h a) : tg h (a + 50) = 101 := (hs.2 (31462, 50, 101, 4000) (by decide)).2.1
theorem RS.l31462 {h : AH} {a : Nat} (hs : RS h a) : ln h (a + 50) = 4000 := (hs.2 (31462, 50, 101, 4000) (by decide)).2.2
theorem RS.p31463 {h : AH} {a : Nat} (hs : RS h a) : fP h 31463 a = some (a + 51) := (hs.2 (31463, 51, 101, 4000) (by decide)).1
theorem RS.t31463 {h : AH} {a : Nat} (hs : RS h a) : tg h (a + 51) = 101 := (hs.2 (31463, 51, 101, 4000) (by decide)).2.1
theorem RS.l31463 {h : AH} {a : Nat} (hs : RS h a) : ln h (a + 51) = 4000 := (hs.2 (31463, 51, 101, 4000) (by decide)).2.2
theorem RS.p31470 {h : AH} {a : Nat} (hs : RS h a) : fP h 31470 a = some (a + 52) := (hs.2 (31470, 52, 101, 16) (by decide)).1
theorem RS.t31470 {h : AH} {a : Nat} (hs : RS h a) : tg h (a + 52) = 101 := (hs.2 (31470, 52, 101, 16) (by decide)).2.1
theorem RS.l31470 {h : AH} {a : Nat} (hs : RS h a) : ln h (a + 52) = 16 := (hs.2 (31470, 52, 101, 16) (by decide)).2.2
theorem RS.p31471 {h : AH} {a : Nat} (hs : RS h a) : fP h 31471 a = some (a + 53) := (hs.2 (31471, 53, 101, 16) (by decide)).1
theorem RS.t31471 {h : AH} {a : Nat} (hs : RS h a) : tg h (a + 53) = 101 := (hs.2 (31471, 53, 101, 16) (by decide)).2.1
theorem RS.l31471 {h : AH} {a : Nat} (hs : RS h a) : ln h (a + 53) = 16 := (hs.2 (31471, 53, 101, 16) (by decide)).2.2
theorem RS.p31472 {h : AH} {a : Nat} (hs : RS h a) : fP h 31472 a = some (a + 54) := (hs.2 (31472, 54, 101, 16) (by decide)).1
theorem RS.t31472 {h : AH} {a : Nat} (hs : RS h a) : tg h (a + 54) = 101 := (hs.2 (31472, 54, 101, 16) (by decide)).2.1
theorem RS.l31472 {h : AH} {a : Nat} (hs : RS h a) : ln h (a + 54) = 16 := (hs.2 (31472, 54, 101, 16) (by decide)).2.2
theorem RS.p31473 {h : AH} {a : Nat} (hs : RS h a) : fP h 31473 a = some (a + 55) := (hs.2 (31473, 55, 101, 16) (by decide)).1
theorem RS.t31473 {h : AH} {a : Nat} (hs : RS h a) : tg h (a + 55) = 101 := (hs.2 (31473, 55, 101, 16) (by decide)).2.1
theorem RS.l31473 {h : AH} {a : Nat} (hs : RS h a) : ln h (a + 55) = 16 := (hs.2 (31473, 55, 101, 16) (by decide)).2.2
theorem RS.p31474 {h : AH} {a : Nat} (hs : RS h a) : fP h 31474 a = some (a + 56) := (hs.2 (31474, 56, 101, 960) (by decide)).1
theorem RS.t31474 {h : AH} {a : Nat} (hs : RS h a) : tg h (a + 56) = 101 := (hs.2 (31474, 56, 101, 960) (by decide)).2.1
theorem RS.l31474 {h : AH} {a : Nat} (hs : RS h a) : ln h (a + 56) = 960 := (hs.2 (31474, 56, 101, 960) (by decide)).2.2
theorem nn_some (a : Nat) (k : Nat → Prop) : nn (some a) k = k a := rfl
