/-! the words of the models, on results -/
theorem bk1 {A0 B : Type} {a0} {f : A0 → Option B} : bd1 (some a0) f = f a0 := rfl
theorem bk2 {A0 A1 B : Type} {a0 a1} {f : A0 → A1 → Option B} : bd2 (some (a0, a1)) f = f a0 a1 := rfl
theorem bk3 {A0 A1 A2 B : Type} {a0 a1 a2} {f : A0 → A1 → A2 → Option B} : bd3 (some (a0, a1, a2)) f = f a0 a1 a2 := rfl
theorem bk4 {A0 A1 A2 A3 B : Type} {a0 a1 a2 a3} {f : A0 → A1 → A2 → A3 → Option B} : bd4 (some (a0, a1, a2, a3)) f = f a0 a1 a2 a3 := rfl
theorem bk5 {A0 A1 A2 A3 A4 B : Type} {a0 a1 a2 a3 a4} {f : A0 → A1 → A2 → A3 → A4 → Option B} : bd5 (some (a0, a1, a2, a3, a4)) f = f a0 a1 a2 a3 a4 := rfl
theorem bk6 {A0 A1 A2 A3 A4 A5 B : Type} {a0 a1 a2 a3 a4 a5} {f : A0 → A1 → A2 → A3 → A4 → A5 → Option B} : bd6 (some (a0, a1, a2, a3, a4, a5)) f = f a0 a1 a2 a3 a4 a5 := rfl
theorem bk7 {A0 A1 A2 A3 A4 A5 A6 B : Type} {a0 a1 a2 a3 a4 a5 a6} {f : A0 → A1 → A2 → A3 → A4 → A5 → A6 → Option B} : bd7 (some (a0, a1, a2, a3, a4, a5, a6)) f = f a0 a1 a2 a3 a4 a5 a6 := rfl
theorem bk8 {A0 A1 A2 A3 A4 A5 A6 A7 B : Type} {a0 a1 a2 a3 a4 a5 a6 a7} {f : A0 → A1 → A2 → A3 → A4 → A5 → A6 → A7 → Option B} : bd8 (some (a0, a1, a2, a3, a4, a5, a6, a7)) f = f a0 a1 a2 a3 a4 a5 a6 a7 := rfl
theorem bk9 {A0 A1 A2 A3 A4 A5 A6 A7 A8 B : Type} {a0 a1 a2 a3 a4 a5 a6 a7 a8} {f : A0 → A1 → A2 → A3 → A4 → A5 → A6 → A7 → A8 → Option B} : bd9 (some (a0, a1, a2, a3, a4, a5, a6, a7, a8)) f = f a0 a1 a2 a3 a4 a5 a6 a7 a8 := rfl
theorem bk10 {A0 A1 A2 A3 A4 A5 A6 A7 A8 A9 B : Type} {a0 a1 a2 a3 a4 a5 a6 a7 a8 a9} {f : A0 → A1 → A2 → A3 → A4 → A5 → A6 → A7 → A8 → A9 → Option B} : bd10 (some (a0, a1, a2, a3, a4, a5, a6, a7, a8, a9)) f = f a0 a1 a2 a3 a4 a5 a6 a7 a8 a9 := rfl
theorem bk11 {A0 A1 A2 A3 A4 A5 A6 A7 A8 A9 A10 B : Type} {a0 a1 a2 a3 a4 a5 a6 a7 a8 a9 a10} {f : A0 → A1 → A2 → A3 → A4 → A5 → A6 → A7 → A8 → A9 → A10 → Option B} : bd11 (some (a0, a1, a2, a3, a4, a5, a6, a7, a8, a9, a10)) f = f a0 a1 a2 a3 a4 a5 a6 a7 a8 a9 a10 := rfl
theorem bk12 {A0 A1 A2 A3 A4 A5 A6 A7 A8 A9 A10 A11 B : Type} {a0 a1 a2 a3 a4 a5 a6 a7 a8 a9 a10 a11} {f : A0 → A1 → A2 → A3 → A4 → A5 → A6 → A7 → A8 → A9 → A10 → A11 → Option B} : bd12 (some (a0, a1, a2, a3, a4, a5, a6, a7, a8, a9, a10, a11)) f = f a0 a1 a2 a3 a4 a5 a6 a7 a8 a9 a10 a11 := rfl
theorem bk13 {A0 A1 A2 A3 A4 A5 A6 A7 A8 A9 A10 A11 A12 B : Type} {a0 a1 a2 a3 a4 a5 a6 a7 a8 a9 a10 a11 a12} {f : A0 → A1 → A2 → A3 → A4 → A5 → A6 → A7 → A8 → A9 → A10 → A11 → A12 → Option B} : bd13 (some (a0, a1, a2, a3, a4, a5, a6, a7, a8, a9, a10, a11, a12)) f = f a0 a1 a2 a3 a4 a5 a6 a7 a8 a9 a10 a11 a12 := rfl
theorem bk14 {A0 A1 A2 A3 A4 A5 A6 A7 A8 A9 A10 A11 A12 A13 B : Type} {a0 a1 a2 a3 a4 a5 a6 a7 a8 a9 a10 a11 a12 a13} {f : A0 → A1 → A2 → A3 → A4 → A5 → A6 → A7 → A8 → A9 → A10 → A11 → A12 → A13 → Option B} : bd14 (some (a0, a1, a2, a3, a4, a5, a6, a7, a8, a9, a10, a11, a12, a13)) f = f a0 a1 a2 a3 a4 a5 a6 a7 a8 a9 a10 a11 a12 a13 := rfl
theorem bk15 {A0 A1 A2 A3 A4 A5 A6 A7 A8 A9 A10 A11 A12 A13 A14 B : Type} {a0 a1 a2 a3 a4 a5 a6 a7 a8 a9 a10 a11 a12 a13 a14} {f : A0 → A1 → A2 → A3 → A4 → A5 → A6 → A7 → A8 → A9 → A10 → A11 → A12 → A13 → A14 → Option B} : bd15 (some (a0, a1, a2, a3, a4, a5, a6, a7, a8, a9, a10, a11, a12, a13, a14)) f = f a0 a1 a2 a3 a4 a5 a6 a7 a8 a9 a10 a11 a12 a13 a14 := rfl
theorem bk16 {A0 A1 A2 A3 A4 A5 A6 A7 A8 A9 A10 A11 A12 A13 A14 A15 B : Type} {a0 a1 a2 a3 a4 a5 a6 a7 a8 a9 a10 a11 a12 a13 a14 a15} {f : A0 → A1 → A2 → A3 → A4 → A5 → A6 → A7 → A8 → A9 → A10 → A11 → A12 → A13 → A14 → A15 → Option B} : bd16 (some (a0, a1, a2, a3, a4, a5, a6, a7, a8, a9, a10, a11, a12, a13, a14, a15)) f = f a0 a1 a2 a3 a4 a5 a6 a7 a8 a9 a10 a11 a12 a13 a14 a15 := rfl
theorem bk17 {A0 A1 A2 A3 A4 A5 A6 A7 A8 A9 A10 A11 A12 A13 A14 A15 A16 B : Type} {a0 a1 a2 a3 a4 a5 a6 a7 a8 a9 a10 a11 a12 a13 a14 a15 a16} {f : A0 → A1 → A2 → A3 → A4 → A5 → A6 → A7 → A8 → A9 → A10 → A11 → A12 → A13 → A14 → A15 → A16 → Option B} : bd17 (some (a0, a1, a2, a3, a4, a5, a6, a7, a8, a9, a10, a11, a12, a13, a14, a15, a16)) f = f a0 a1 a2 a3 a4 a5 a6 a7 a8 a9 a10 a11 a12 a13 a14 a15 a16 := rfl
theorem bk18 {A0 A1 A2 A3 A4 A5 A6 A7 A8 A9 A10 A11 A12 A13 A14 A15 A16 A17 B : Type} {a0 a1 a2 a3 a4 a5 a6 a7 a8 a9 a10 a11 a12 a13 a14 a15 a16 a17} {f : A0 → A1 → A2 → A3 → A4 → A5 → A6 → A7 → A8 → A9 → A10 → A11 → A12 → A13 → A14 → A15 → A16 → A17 → Option B} : bd18 (some (a0, a1, a2, a3, a4, a5, a6, a7, a8, a9, a10, a11, a12, a13, a14, a15, a16, a17)) f = f a0 a1 a2 a3 a4 a5 a6 a7 a8 a9 a10 a11 a12 a13 a14 a15 a16 a17 := rfl
theorem bk19 {A0 A1 A2 A3 A4 A5 A6 A7 A8 A9 A10 A11 A12 A13 A14 A15 A16 A17 A18 B : Type} {a0 a1 a2 a3 a4 a5 a6 a7 a8 a9 a10 a11 a12 a13 a14 a15 a16 a17 a18} {f : A0 → A1 → A2 → A3 → A4 → A5 → A6 → A7 → A8 → A9 → A10 → A11 → A12 → A13 → A14 → A15 → A16 → A17 → A18 → Option B} : bd19 (some (a0, a1, a2, a3, a4, a5, a6, a7, a8, a9, a10, a11, a12, a13, a14, a15, a16, a17, a18)) f = f a0 a1 a2 a3 a4 a5 a6 a7 a8 a9 a10 a11 a12 a13 a14 a15 a16 a17 a18 := rfl
theorem bk20 {A0 A1 A2 A3 A4 A5 A6 A7 A8 A9 A10 A11 A12 A13 A14 A15 A16 A17 A18 A19 B : Type} {a0 a1 a2 a3 a4 a5 a6 a7 a8 a9 a10 a11 a12 a13 a14 a15 a16 a17 a18 a19} {f : A0 → A1 → A2 → A3 → A4 → A5 → A6 → A7 → A8 → A9 → A10 → A11 → A12 → A13 → A14 → A15 → A16 → A17 → A18 → A19 → Option B} : bd20 (some (a0, a1, a2, a3, a4, a5, a6, a7, a8, a9, a10, a11, a12, a13, a14, a15, a16, a17, a18, a19)) f = f a0 a1 a2 a3 a4 a5 a6 a7 a8 a9 a10 a11 a12 a13 a14 a15 a16 a17 a18 a19 := rfl
theorem bk21 {A0 A1 A2 A3 A4 A5 A6 A7 A8 A9 A10 A11 A12 A13 A14 A15 A16 A17 A18 A19 A20 B : Type} {a0 a1 a2 a3 a4 a5 a6 a7 a8 a9 a10 a11 a12 a13 a14 a15 a16 a17 a18 a19 a20} {f : A0 → A1 → A2 → A3 → A4 → A5 → A6 → A7 → A8 → A9 → A10 → A11 → A12 → A13 → A14 → A15 → A16 → A17 → A18 → A19 → A20 → Option B} : bd21 (some (a0, a1, a2, a3, a4, a5, a6, a7, a8, a9, a10, a11, a12, a13, a14, a15, a16, a17, a18, a19, a20)) f = f a0 a1 a2 a3 a4 a5 a6 a7 a8 a9 a10 a11 a12 a13 a14 a15 a16 a17 a18 a19 a20 := rfl
theorem bk22 {A0 A1 A2 A3 A4 A5 A6 A7 A8 A9 A10 A11 A12 A13 A14 A15 A16 A17 A18 A19 A20 A21 B : Type} {a0 a1 a2 a3 a4 a5 a6 a7 a8 a9 a10 a11 a12 a13 a14 a15 a16 a17 a18 a19 a20 a21} {f : A0 → A1 → A2 → A3 → A4 → A5 → A6 → A7 → A8 → A9 → A10 → A11 → A12 → A13 → A14 → A15 → A16 → A17 → A18 → A19 → A20 → A21 → Option B} : bd22 (some (a0, a1, a2, a3, a4, a5, a6, a7, a8, a9, a10, a11, a12, a13, a14, a15, a16, a17, a18, a19, a20, a21)) f = f a0 a1 a2 a3 a4 a5 a6 a7 a8 a9 a10 a11 a12 a13 a14 a15 a16 a17 a18 a19 a20 a21 := rfl
theorem bk23 {A0 A1 A2 A3 A4 A5 A6 A7 A8 A9 A10 A11 A12 A13 A14 A15 A16 A17 A18 A19 A20 A21 A22 B : Type} {a0 a1 a2 a3 a4 a5 a6 a7 a8 a9 a10 a11 a12 a13 a14 a15 a16 a17 a18 a19 a20 a21 a22} {f : A0 → A1 → A2 → A3 → A4 → A5 → A6 → A7 → A8 → A9 → A10 → A11 → A12 → A13 → A14 → A15 → A16 → A17 → A18 → A19 → A20 → A21 → A22 → Option B} : bd23 (some (a0, a1, a2, a3, a4, a5, a6, a7, a8, a9, a10, a11, a12, a13, a14, a15, a16, a17, a18, a19, a20, a21, a22)) f = f a0 a1 a2 a3 a4 a5 a6 a7 a8 a9 a10 a11 a12 a13 a14 a15 a16 a17 a18 a19 a20 a21 a22 := rfl
theorem bk24 {A0 A1 A2 A3 A4 A5 A6 A7 A8 A9 A10 A11 A12 A13 A14 A15 A16 A17 A18 A19 A20 A21 A22 A23 B : Type} {a0 a1 a2 a3 a4 a5 a6 a7 a8 a9 a10 a11 a12 a13 a14 a15 a16 a17 a18 a19 a20 a21 a22 a23} {f : A0 → A1 → A2 → A3 → A4 → A5 → A6 → A7 → A8 → A9 → A10 → A11 → A12 → A13 → A14 → A15 → A16 → A17 → A18 → A19 → A20 → A21 → A22 → A23 → Option B} : bd24 (some (a0, a1, a2, a3, a4, a5, a6, a7, a8, a9, a10, a11, a12, a13, a14, a15, a16, a17, a18, a19, a20, a21, a22, a23)) f = f a0 a1 a2 a3 a4 a5 a6 a7 a8 a9 a10 a11 a12 a13 a14 a15 a16 a17 a18 a19 a20 a21 a22 a23 := rfl
theorem bk25 {A0 A1 A2 A3 A4 A5 A6 A7 A8 A9 A10 A11 A12 A13 A14 A15 A16 A17 A18 A19 A20 A21 A22 A23 A24 B : Type} {a0 a1 a2 a3 a4 a5 a6 a7 a8 a9 a10 a11 a12 a13 a14 a15 a16 a17 a18 a19 a20 a21 a22 a23 a24} {f : A0 → A1 → A2 → A3 → A4 → A5 → A6 → A7 → A8 → A9 → A10 → A11 → A12 → A13 → A14 → A15 → A16 → A17 → A18 → A19 → A20 → A21 → A22 → A23 → A24 → Option B} : bd25 (some (a0, a1, a2, a3, a4, a5, a6, a7, a8, a9, a10, a11, a12, a13, a14, a15, a16, a17, a18, a19, a20, a21, a22, a23, a24)) f = f a0 a1 a2 a3 a4 a5 a6 a7 a8 a9 a10 a11 a12 a13 a14 a15 a16 a17 a18 a19 a20 a21 a22 a23 a24 := rfl
theorem bk26 {A0 A1 A2 A3 A4 A5 A6 A7 A8 A9 A10 A11 A12 A13 A14 A15 A16 A17 A18 A19 A20 A21 A22 A23 A24 A25 B : Type} {a0 a1 a2 a3 a4 a5 a6 a7 a8 a9 a10 a11 a12 a13 a14 a15 a16 a17 a18 a19 a20 a21 a22 a23 a24 a25} {f : A0 → A1 → A2 → A3 → A4 → A5 → A6 → A7 → A8 → A9 → A10 → A11 → A12 → A13 → A14 → A15 → A16 → A17 → A18 → A19 → A20 → A21 → A22 → A23 → A24 → A25 → Option B} : bd26 (some (a0, a1, a2, a3, a4, a5, a6, a7, a8, a9, a10, a11, a12, a13, a14, a15, a16, a17, a18, a19, a20, a21, a22, a23, a24, a25)) f = f a0 a1 a2 a3 a4 a5 a6 a7 a8 a9 a10 a11 a12 a13 a14 a15 a16 a17 a18 a19 a20 a21 a22 a23 a24 a25 := rfl
theorem bk27 {A0 A1 A2 A3 A4 A5 A6 A7 A8 A9 A10 A11 A12 A13 A14 A15 A16 A17 A18 A19 A20 A21 A22 A23 A24 A25 A26 B : Type} {a0 a1 a2 a3 a4 a5 a6 a7 a8 a9 a10 a11 a12 a13 a14 a15 a16 a17 a18 a19 a20 a21 a22 a23 a24 a25 a26} {f : A0 → A1 → A2 → A3 → A4 → A5 → A6 → A7 → A8 → A9 → A10 → A11 → A12 → A13 → A14 → A15 → A16 → A17 → A18 → A19 → A20 → A21 → A22 → A23 → A24 → A25 → A26 → Option B} : bd27 (some (a0, a1, a2, a3, a4, a5, a6, a7, a8, a9, a10, a11, a12, a13, a14, a15, a16, a17, a18, a19, a20, a21, a22, a23, a24, a25, a26)) f = f a0 a1 a2 a3 a4 a5 a6 a7 a8 a9 a10 a11 a12 a13 a14 a15 a16 a17 a18 a19 a20 a21 a22 a23 a24 a25 a26 := rfl
theorem bk28 {A0 A1 A2 A3 A4 A5 A6 A7 A8 A9 A10 A11 A12 A13 A14 A15 A16 A17 A18 A19 A20 A21 A22 A23 A24 A25 A26 A27 B : Type} {a0 a1 a2 a3 a4 a5 a6 a7 a8 a9 a10 a11 a12 a13 a14 a15 a16 a17 a18 a19 a20 a21 a22 a23 a24 a25 a26 a27} {f : A0 → A1 → A2 → A3 → A4 → A5 → A6 → A7 → A8 → A9 → A10 → A11 → A12 → A13 → A14 → A15 → A16 → A17 → A18 → A19 → A20 → A21 → A22 → A23 → A24 → A25 → A26 → A27 → Option B} : bd28 (some (a0, a1, a2, a3, a4, a5, a6, a7, a8, a9, a10, a11, a12, a13, a14, a15, a16, a17, a18, a19, a20, a21, a22, a23, a24, a25, a26, a27)) f = f a0 a1 a2 a3 a4 a5 a6 a7 a8 a9 a10 a11 a12 a13 a14 a15 a16 a17 a18 a19 a20 a21 a22 a23 a24 a25 a26 a27 := rfl
theorem bk29 {A0 A1 A2 A3 A4 A5 A6 A7 A8 A9 A10 A11 A12 A13 A14 A15 A16 A17 A18 A19 A20 A21 A22 A23 A24 A25 A26 A27 A28 B : Type} {a0 a1 a2 a3 a4 a5 a6 a7 a8 a9 a10 a11 a12 a13 a14 a15 a16 a17 a18 a19 a20 a21 a22 a23 a24 a25 a26 a27 a28} {f : A0 → A1 → A2 → A3 → A4 → A5 → A6 → A7 → A8 → A9 → A10 → A11 → A12 → A13 → A14 → A15 → A16 → A17 → A18 → A19 → A20 → A21 → A22 → A23 → A24 → A25 → A26 → A27 → A28 → Option B} : bd29 (some (a0, a1, a2, a3, a4, a5, a6, a7, a8, a9, a10, a11, a12, a13, a14, a15, a16, a17, a18, a19, a20, a21, a22, a23, a24, a25, a26, a27, a28)) f = f a0 a1 a2 a3 a4 a5 a6 a7 a8 a9 a10 a11 a12 a13 a14 a15 a16 a17 a18 a19 a20 a21 a22 a23 a24 a25 a26 a27 a28 := rfl
theorem bk30 {A0 A1 A2 A3 A4 A5 A6 A7 A8 A9 A10 A11 A12 A13 A14 A15 A16 A17 A18 A19 A20 A21 A22 A23 A24 A25 A26 A27 A28 A29 B : Type} {a0 a1 a2 a3 a4 a5 a6 a7 a8 a9 a10 a11 a12 a13 a14 a15 a16 a17 a18 a19 a20 a21 a22 a23 a24 a25 a26 a27 a28 a29} {f : A0 → A1 → A2 → A3 → A4 → A5 → A6 → A7 → A8 → A9 → A10 → A11 → A12 → A13 → A14 → A15 → A16 → A17 → A18 → A19 → A20 → A21 → A22 → A23 → A24 → A25 → A26 → A27 → A28 → A29 → Option B} : bd30 (some (a0, a1, a2, a3, a4, a5, a6, a7, a8, a9, a10, a11, a12, a13, a14, a15, a16, a17, a18, a19, a20, a21, a22, a23, a24, a25, a26, a27, a28, a29)) f = f a0 a1 a2 a3 a4 a5 a6 a7 a8 a9 a10 a11 a12 a13 a14 a15 a16 a17 a18 a19 a20 a21 a22 a23 a24 a25 a26 a27 a28 a29 := rfl
theorem lt_t {α β : Type} {e : α} {f : α → β} : lt' e f = f e := rfl
theorem gd_tt {α : Type} {x : Option α} : gd true x = x := rfl
/-! ranges -/
theorem in_eq (x : Int32) (a b : Int64) : m_X6_in x.toInt64 a b = some (if a.toInt ≤ x.toInt ∧ x.toInt ≤ b.toInt then 1 else 0) := by
  unfold m_X6_in lg_cmp
  have e : x.toInt64.toInt = x.toInt := Int32.toInt_toInt64 x
  simp only [gt_iff_lt, Int64.lt_iff_toInt_lt, ← Int64.toInt_inj, e]
  by_cases h1 : x.toInt < a.toInt
  · have h2 : ¬ a.toInt < x.toInt := by omega
    have h3 : ¬ x.toInt = a.toInt := by omega
    rw [if_neg h2, if_neg h3, if_pos (by decide), if_neg (by omega)]
  · have g : ¬ ((if a.toInt < x.toInt then (1 : Int32) else if x.toInt = a.toInt then 0 else -1) < 0) := by
      by_cases h2 : a.toInt < x.toInt
      · rw [if_pos h2]; decide
      · rw [if_neg h2, if_pos (by omega)]; decide
    rw [if_neg g]
    by_cases h3 : b.toInt < x.toInt
    · rw [if_pos h3, if_pos (by decide), if_neg (by omega)]
    · have g2 : ¬ (0 < (if b.toInt < x.toInt then (1 : Int32) else if x.toInt = b.toInt then 0 else -1)) := by
        rw [if_neg h3]
        by_cases h4 : x.toInt = b.toInt
        · rw [if_pos h4]; decide
        · rw [if_neg h4]; decide
      rw [if_neg g2, if_pos (by omega)]
theorem nI_toIntI (x : Int32) {z : Nat} (hz : z < 2 ^ 31) : (∃ j, j < z ∧ x = nI j) ↔ (0 ≤ x.toInt ∧ x.toInt < z) := by
  constructor
  · rintro ⟨j, hj, rfl⟩
    rw [nI_toInt (by omega)]; omega
  · rintro ⟨h1, h2⟩
    exact ⟨x.toInt.toNat, by omega, Int32.toInt_inj.mp (by rw [nI_toInt (by omega)]; omega)⟩
/-- v is one of 0 .. z - 1 -/
def inR (z : Nat) (v : Int32) : Prop := ∃ j, j < z ∧ v = nI j
theorem rng_has {z : Nat} (hz : z < 2 ^ 31) (v : Int32) : (if v < 0 then some 0 else (if nI z ≤ v then some 0 else some (1 : Int32))) = some (if 0 ≤ v.toInt ∧ v.toInt < z then 1 else 0) := by
  simp only [Int32.lt_iff_toInt_lt, Int32.le_iff_toInt_le, nI_toInt hz, Int32.toInt_zero]
  by_cases h1 : v.toInt < 0
  · rw [if_pos h1, if_neg (by omega)]
  · rw [if_neg h1]
    by_cases h2 : (z : Int) ≤ v.toInt
    · rw [if_pos h2, if_neg (by omega)]
    · rw [if_neg h2, if_pos (by omega)]
theorem rng_in {z : Nat} (hz : z < 2 ^ 31) (v : Int32) : m_X6_in v.toInt64 0 (nI z - 1).toInt64 = some (if 0 ≤ v.toInt ∧ v.toInt < z then 1 else 0) := by
  rw [in_eq]
  have e : (nI z - 1).toInt64.toInt = (z : Int) - 1 := by
    rw [Int32.toInt_toInt64]
    cases z with
    | zero => decide
    | succ z => rw [nI_pred, nI_toInt (by omega)]; omega
  rw [e, show (0 : Int64).toInt = 0 from rfl]
  congr 1
  by_cases h : 0 ≤ v.toInt ∧ v.toInt < z
  · rw [if_pos h, if_pos (by omega)]
  · rw [if_neg h, if_neg (by omega)]
theorem isb_if (p : Prop) [Decidable p] : isb (if p then 1 else 0) = true := by by_cases h : p <;> simp [h] <;> decide
theorem X0_has_eq {z : Nat} (hz : z < 2 ^ 31) (v : Int32) : m_X0_has (nI z) v = some (if 0 ≤ v.toInt ∧ v.toInt < z then 1 else 0) := rng_has hz v
theorem X0_hasColumn_eq {z : Nat} (hz : z < 2 ^ 31) (v : Int32) : m_X0_hasColumn (nI z) v = some (if 0 ≤ v.toInt ∧ v.toInt < z then 1 else 0) := rng_has hz v
theorem X1_has_eq {z : Nat} (hz : z < 2 ^ 31) (v : Int32) : m_X1_has (nI z) v = some (if 0 ≤ v.toInt ∧ v.toInt < z then 1 else 0) := rng_has hz v
theorem X5_isSubject_eq (v : Int32) : m_X5_isSubject v = some (if 0 ≤ v.toInt ∧ v.toInt < (10 : Nat) then 1 else 0) := rng_has (z := 10) (by decide) v
theorem X5_isTeacher_eq (v : Int32) : m_X5_isTeacher v = some (if 0 ≤ v.toInt ∧ v.toInt < (10 : Nat) then 1 else 0) := rng_has (z := 10) (by decide) v
theorem X6_isSection_eq {z : Nat} (hz : z < 2 ^ 31) (v : Int32) : m_X6_isSection (nI z) v = some (if 0 ≤ v.toInt ∧ v.toInt < z then 1 else 0) := by
  unfold m_X6_isSection
  rw [rng_in hz]
  rw [bk1]
  rw [isb_if]; rfl
theorem X6_isColumn_eq {z : Nat} (hz : z < 2 ^ 31) (v : Int32) : m_X6_isColumn (nI z) v = some (if 0 ≤ v.toInt ∧ v.toInt < z then 1 else 0) := X6_isSection_eq hz v
theorem X6_isPupil_eq {z : Nat} (hz : z < 2 ^ 31) (v : Int32) : m_X6_isPupil (nI z) v = some (if 0 ≤ v.toInt ∧ v.toInt < z then 1 else 0) := X6_isSection_eq hz v
theorem X6_isSubject_eq (v : Int32) : m_X6_isSubject v = some (if 0 ≤ v.toInt ∧ v.toInt < (10 : Nat) then 1 else 0) := by
  unfold m_X6_isSubject
  rw [show (9 : Int64) = (nI 10 - 1).toInt64 from rfl, rng_in (by decide)]
  rw [bk1]
  rw [isb_if]; rfl
theorem X6_isTeacher_eq (v : Int32) : m_X6_isTeacher v = some (if 0 ≤ v.toInt ∧ v.toInt < (10 : Nat) then 1 else 0) := X6_isSubject_eq v
theorem X5_areSeats_eq (v : Int32) : m_X5_areSeats v = some (if 1 ≤ v.toInt ∧ v.toInt ≤ 30 then 1 else 0) := by
  unfold m_X5_areSeats
  simp only [Int32.lt_iff_toInt_lt, show (1 : Int32).toInt = 1 from rfl, show (30 : Int32).toInt = 30 from rfl]
  by_cases h1 : v.toInt < 1
  · rw [if_pos h1, if_neg (by omega)]
  · rw [if_neg h1]
    by_cases h2 : 30 < v.toInt
    · rw [if_pos h2, if_neg (by omega)]
    · rw [if_neg h2, if_pos (by omega)]
theorem in_seats (v : Int32) : m_X6_in v.toInt64 1 30 = some (if 1 ≤ v.toInt ∧ v.toInt ≤ 30 then 1 else 0) := in_eq v 1 30
/-- one of 0 .. z - 1, as a number -/
theorem rng_of {z : Nat} {v : Int32} (h : 0 ≤ v.toInt ∧ v.toInt < z) (hz : z < 2 ^ 31) : ∃ j, j < z ∧ v = nI j := (nI_toIntI v hz).mpr h
theorem rng_to {z j : Nat} (hj : j < z) (hz : z < 2 ^ 31) : 0 ≤ (nI j).toInt ∧ (nI j).toInt < z := (nI_toIntI (nI j) hz).mp ⟨j, hj, rfl⟩
theorem seats_of {v : Int32} (h : 1 ≤ v.toInt ∧ v.toInt ≤ 30) : ∃ a : Nat, 1 ≤ a ∧ a ≤ 30 ∧ v = nI a :=
  ⟨v.toInt.toNat, by omega, by omega, Int32.toInt_inj.mp (by rw [nI_toInt (by omega)]; omega)⟩
theorem nI_inj {a b : Nat} (ha : a < 2 ^ 31) (hb : b < 2 ^ 31) (h : nI a = nI b) : a = b := (nI_eq ha hb).mp h
/-! the small ones -/
theorem sim_row : ∀ (x_toldCount : Int32) (x_told : Nat → Int64) (m_told : Int32) (m_row : Nat → Int32) (m_thrown v1 : Int32), RRow x_toldCount x_told m_told m_row →
  ((¬ v1 < 0 ∧ v1 < x_toldCount) → m_X6_row m_thrown m_told m_row v1 = some (x_told v1.toNatClampNeg, 0)) ∧ (¬ (¬ v1 < 0 ∧ v1 < x_toldCount) → m_X6_row m_thrown m_told m_row v1 = some (0, 1)) ∧ ∀ x : Int32, ¬ x < 0 → x < x_toldCount → vp_in x 6 := by
  intro tc told mt row th v1 h
  obtain ⟨rfl, k, hk, rfl, hrow⟩ := h
  have hz : k < 2 ^ 31 := by omega
  have hc : (¬ v1 < 0 ∧ v1 < nI k) ↔ (0 ≤ v1.toInt ∧ v1.toInt < k) := by
    rw [Int32.lt_iff_toInt_lt, Int32.lt_iff_toInt_lt, nI_toInt hz, Int32.toInt_zero]; omega
  refine ⟨fun h => ?_, fun h => ?_, fun x h1 h2 => ?_⟩
  · obtain ⟨j, hj, rfl⟩ := rng_of (hc.mp h) hz
    unfold m_X6_row
    rw [rng_in hz, if_pos (hc.mp h)]
    rw [bk1]
    rw [if_neg (by decide)]
    unfold m_X6_row_22 m_X6_flag
    rw [if_pos rfl]
    rw [bk1]
    rw [if_neg (by decide), gd_t (inb_nI (by omega) (by decide)), nI_clamp (by omega), hrow j hj]
  · unfold m_X6_row
    rw [rng_in hz, if_neg (fun z => h (hc.mpr z))]
    rw [bk1]
    rw [if_pos rfl]
    unfold m_X6_row_22 m_X6_flag
    rw [if_neg (by decide)]
    rw [bk1]
    rw [if_pos rfl]
  · rw [Int32.lt_iff_toInt_lt, Int32.toInt_zero] at h1
    rw [Int32.lt_iff_toInt_lt, nI_toInt hz] at h2
    rw [vp_in_iff]
    omega
theorem rel_init : Rel 0 (fun _ => 0) 0 (fun _ => 0) 4 5 0 (fun _ => 0) (fun _ => 0) (fun _ => 0) (fun _ => 0) (fun _ => 0) (fun _ => 0) 0 0 (fun _ => 0) 0 (fun _ => 0) 0 (fun _ => 0) 4 5 0 (fun _ => 0) (fun _ => 0) (fun _ => 0) (fun _ => 0) (fun _ => 0) 0 0 (fun _ => 0) := by
  refine ⟨⟨rfl, 0, by omega, rfl, fun j hj => absurd hj (by omega)⟩, ⟨rfl, 0, by omega, rfl, fun j hj => absurd hj (by omega)⟩, ⟨rfl, rfl, rfl, 4, 5, 0, ⟨by omega, by omega, rfl⟩, ⟨by omega, by omega, rfl⟩, ⟨by omega, rfl⟩, fun t _ => rfl, fun i hi => absurd hi (by omega), ?_, ?_⟩, ⟨rfl, rfl, 0, by omega, rfl, fun p hp => absurd hp (by omega)⟩⟩
  · intro s hs c hc
    constructor
    · intro h; rw [b_0] at h; cases h
    · rintro ⟨i, hi, -⟩; exact absurd hi (by omega)
  · intro c hc
    exact Nat.zero_le _
theorem sim_end : Sim_end := by
  intro tc told ts tg cc rc sz bars subj teach seats col cw rs rk rch mt row tp tape mc mr mm mbars msubj mteach mseats mcol mp mk mch mth v1 hR
  obtain ⟨hrow, ⟨rfl, k, hk, rfl, ht⟩, hplan, hroll⟩ := hR
  have e1 : m_X5_end (nI k) v1 = some (if 0 ≤ v1.toInt ∧ v1.toInt ≤ k then (1, v1) else (0, nI k)) := by
    unfold m_X5_end m_X3_cutTo
    simp only [Int32.lt_iff_toInt_lt, Int32.le_iff_toInt_le, nI_toInt (show k < 2 ^ 31 by omega), Int32.toInt_zero]
    by_cases h1 : v1.toInt < 0
    · rw [if_pos h1, if_neg (by omega)]; rfl
    · rw [if_neg h1]
      by_cases h2 : v1.toInt ≤ k
      · rw [if_pos h2, if_pos (by omega)]; rfl
      · rw [if_neg h2, if_neg (by omega)]; rfl
  have e2 : m_X6_end mth (nI k) v1 = some (if 0 ≤ v1.toInt ∧ v1.toInt ≤ k then (1, 0, v1) else (0, 0, nI k)) := by
    unfold m_X6_end
    rw [in_eq, Int32.toInt_toInt64, nI_toInt (show k < 2 ^ 31 by omega), show (0 : Int64).toInt = 0 from rfl]
    by_cases h : 0 ≤ v1.toInt ∧ v1.toInt ≤ k
    · rw [if_pos h, if_pos h]; rfl
    · rw [if_neg h, if_neg h]; rfl
  by_cases h : 0 ≤ v1.toInt ∧ v1.toInt ≤ k
  · rw [if_pos h] at e1 e2
    refine ⟨1, v1, 0, v1, e1, e2, hrow, ⟨rfl, v1.toInt.toNat, by omega, Int32.toInt_inj.mp (by rw [nI_toInt (by omega)]; omega), fun j hj => ht j (by omega)⟩, hplan, hroll⟩
  · rw [if_neg h] at e1 e2
    exact ⟨0, nI k, 0, nI k, e1, e2, hrow, ⟨rfl, k, hk, rfl, ht⟩, hplan, hroll⟩
theorem sim_keeps : Sim_keeps := by
  intro tc told ts tg cc rc sz bars subj teach seats col cw rs rk rch mt row tp tape mc mr mm mbars msubj mteach mseats mcol mp mk mch mth v1 v2 hv hR
  obtain ⟨hrow, htext, hplan, ⟨rfl, rfl, k, hk, rfl, hch⟩⟩ := hR
  have hz : k < 2 ^ 31 := by omega
  unfold m_X5_keeps m_X6_keeps
  rw [X1_has_eq hz, X6_isPupil_eq hz]
  by_cases h : 0 ≤ v1.toInt ∧ v1.toInt < k
  · obtain ⟨j, hj, rfl⟩ := rng_of h hz
    rw [if_pos h, bk1, bk1, if_neg (by decide), if_neg (by decide), hasBit_eq (by omega), has_eq (by omega)]
    simp only [bk1, lt_t, bitCount_eq, bits_eq]
    by_cases h2 : (if bt rk j = true then (1 : Int32) else 0) = v2
    · rw [if_pos h2, if_pos h2]
      exact ⟨_, _, _, _, rfl, rfl, hrow, htext, hplan, ⟨rfl, rfl, k, hk, rfl, hch⟩⟩
    · rw [if_neg h2, if_neg h2]
      exact ⟨_, _, _, _, rfl, rfl, hrow, htext, hplan, ⟨rfl, rfl, k, hk, rfl, hch⟩⟩
  · rw [if_neg h, bk1, bk1, if_pos rfl, if_pos rfl]
    exact ⟨_, _, _, _, rfl, rfl, hrow, htext, hplan, ⟨rfl, rfl, k, hk, rfl, hch⟩⟩
