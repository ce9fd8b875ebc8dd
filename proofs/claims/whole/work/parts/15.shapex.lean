/-- the shape of the class's object at 16 and all that it holds -/
def XS (h : Hp) : Prop := (((((((gK h 16 = 11 ∧ gK h 17 = 10) ∧ (gK h 18 = 20 ∧ (gN h 18 = 700 ∧ gK h 19 = 1))) ∧ ((gK h 20 = 20 ∧ gN h 20 = 44) ∧ (gK h 21 = 1 ∧ (gK h 22 = 20 ∧ gN h 22 = 44)))) ∧ (((gK h 23 = 8 ∧ gK h 24 = 1) ∧ (gK h 25 = 20 ∧ (gN h 25 = 44 ∧ gK h 26 = 20))) ∧ ((gN h 26 = 8 ∧ (gK h 27 = 20 ∧ gN h 27 = 8)) ∧ (gK h 28 = 23 ∧ (gN h 28 = 2 ∧ gK h 29 = 22))))) ∧ ((((gN h 29 = 2 ∧ gK h 30 = 0) ∧ (gK h 31 = 20 ∧ (gN h 31 = 20 ∧ gK h 32 = 20))) ∧ ((gN h 32 = 20 ∧ (gK h 33 = 20 ∧ gN h 33 = 20)) ∧ (gK h 34 = 20 ∧ (gN h 34 = 160 ∧ gK h 35 = 7)))) ∧ (((gK h 36 = 20 ∧ gN h 36 = 3) ∧ (gK h 37 = 20 ∧ (gN h 37 = 8 ∧ gK h 38 = 20))) ∧ ((gN h 38 = 8 ∧ (gK h 39 = 20 ∧ gN h 39 = 24)) ∧ (gK h 40 = 20 ∧ (gN h 40 = 24 ∧ gK h 41 = 20)))))) ∧ (((((gN h 41 = 24 ∧ gK h 42 = 9) ∧ (gK h 43 = 20 ∧ (gN h 43 = 39 ∧ gK h 44 = 20))) ∧ ((gN h 44 = 39 ∧ (gK h 45 = 20 ∧ gN h 45 = 3)) ∧ (gK h 50 = 6 ∧ (gK h 51 = 20 ∧ gN h 51 = 8)))) ∧ (((gK h 52 = 20 ∧ gN h 52 = 8) ∧ (gK h 53 = 20 ∧ (gN h 53 = 12 ∧ gK h 54 = 20))) ∧ ((gN h 54 = 3 ∧ (gK h 55 = 20 ∧ gN h 55 = 1296)) ∧ (gK h 56 = 2 ∧ (gK h 57 = 21 ∧ gN h 57 = 20))))) ∧ ((((gK h 58 = 20 ∧ gN h 58 = 4) ∧ (gK h 59 = 21 ∧ (gN h 59 = 8 ∧ gK h 60 = 4))) ∧ ((gK h 61 = 20 ∧ (gN h 61 = 5 ∧ gK h 62 = 20)) ∧ (gN h 62 = 165 ∧ (gK h 63 = 20 ∧ gN h 63 = 165)))) ∧ (((gK h 64 = 20 ∧ gN h 64 = 165) ∧ (gK h 65 = 3 ∧ (gK h 66 = 20 ∧ gN h 66 = 5))) ∧ ((gK h 67 = 20 ∧ (gN h 67 = 3 ∧ gK h 68 = 20)) ∧ (gN h 68 = 3 ∧ (gK h 69 = 20 ∧ gN h 69 = 343))))))) ∧ ((((((gK h 70 = 20 ∧ gN h 70 = 2058) ∧ (gK h 71 = 5 ∧ (gK h 72 = 20 ∧ gN h 72 = 20))) ∧ ((gK h 73 = 20 ∧ (gN h 73 = 20 ∧ gK h 74 = 20)) ∧ (gN h 74 = 20 ∧ (gK h 75 = 20 ∧ gN h 75 = 162)))) ∧ (((gK h 76 = 20 ∧ gN h 76 = 3) ∧ (gK h 77 = 1 ∧ (gK h 78 = 20 ∧ gN h 78 = 44))) ∧ ((gK h 79 = 1 ∧ (gK h 80 = 20 ∧ gN h 80 = 44)) ∧ (gR h 16 0 = 17 ∧ (gR h 16 1 = 19 ∧ gR h 16 2 = 21))))) ∧ ((((gR h 16 3 = 23 ∧ gR h 16 4 = 28) ∧ (gR h 16 5 = 29 ∧ (gR h 16 6 = 30 ∧ gR h 16 7 = 35))) ∧ ((gR h 16 8 = 42 ∧ (gR h 16 9 = 50 ∧ gR h 16 10 = 56)) ∧ (gR h 16 11 = 60 ∧ (gR h 16 12 = 65 ∧ gR h 16 13 = 71)))) ∧ (((gR h 16 14 = 76 ∧ gR h 17 0 = 18) ∧ (gR h 19 0 = 20 ∧ (gR h 21 0 = 22 ∧ gR h 23 0 = 17))) ∧ ((gR h 23 1 = 24 ∧ (gR h 23 2 = 26 ∧ gR h 23 3 = 27)) ∧ (gR h 24 0 = 25 ∧ (gR h 28 0 = 77 ∧ gR h 28 1 = 79)))))) ∧ (((((gR h 30 0 = 31 ∧ gR h 30 1 = 32) ∧ (gR h 30 2 = 33 ∧ (gR h 30 3 = 34 ∧ gR h 35 0 = 36))) ∧ ((gR h 35 1 = 37 ∧ (gR h 35 2 = 38 ∧ gR h 35 3 = 39)) ∧ (gR h 35 4 = 40 ∧ (gR h 35 5 = 41 ∧ gR h 42 0 = 21)))) ∧ (((gR h 42 1 = 43 ∧ gR h 42 2 = 44) ∧ (gR h 42 3 = 45 ∧ (gR h 50 0 = 21 ∧ gR h 50 1 = 35))) ∧ ((gR h 50 2 = 51 ∧ (gR h 50 3 = 52 ∧ gR h 50 4 = 53)) ∧ (gR h 50 5 = 54 ∧ (gR h 50 6 = 55 ∧ gR h 56 0 = 21))))) ∧ ((((gR h 56 1 = 57 ∧ gR h 56 2 = 58) ∧ (gR h 56 3 = 59 ∧ (gR h 60 0 = 21 ∧ gR h 60 1 = 61))) ∧ ((gR h 60 2 = 62 ∧ (gR h 60 3 = 63 ∧ gR h 60 4 = 64)) ∧ (gR h 65 0 = 21 ∧ (gR h 65 1 = 66 ∧ gR h 65 2 = 67)))) ∧ (((gR h 65 3 = 68 ∧ gR h 65 4 = 69) ∧ (gR h 65 5 = 70 ∧ (gR h 71 0 = 19 ∧ gR h 71 1 = 35))) ∧ ((gR h 71 2 = 72 ∧ (gR h 71 3 = 73 ∧ gR h 71 4 = 74)) ∧ (gR h 71 5 = 75 ∧ (gR h 77 0 = 78 ∧ gR h 79 0 = 80))))))))
theorem X_k16 {h : Hp} (m : XS h) : gK h 16 = 11 := m.1.1.1.1.1.1.1
theorem X_k17 {h : Hp} (m : XS h) : gK h 17 = 10 := m.1.1.1.1.1.1.2
theorem X_k18 {h : Hp} (m : XS h) : gK h 18 = 20 := m.1.1.1.1.1.2.1
theorem X_n18 {h : Hp} (m : XS h) : gN h 18 = 700 := m.1.1.1.1.1.2.2.1
theorem X_k19 {h : Hp} (m : XS h) : gK h 19 = 1 := m.1.1.1.1.1.2.2.2
theorem X_k20 {h : Hp} (m : XS h) : gK h 20 = 20 := m.1.1.1.1.2.1.1
theorem X_n20 {h : Hp} (m : XS h) : gN h 20 = 44 := m.1.1.1.1.2.1.2
theorem X_k21 {h : Hp} (m : XS h) : gK h 21 = 1 := m.1.1.1.1.2.2.1
theorem X_k22 {h : Hp} (m : XS h) : gK h 22 = 20 := m.1.1.1.1.2.2.2.1
theorem X_n22 {h : Hp} (m : XS h) : gN h 22 = 44 := m.1.1.1.1.2.2.2.2
theorem X_k23 {h : Hp} (m : XS h) : gK h 23 = 8 := m.1.1.1.2.1.1.1
theorem X_k24 {h : Hp} (m : XS h) : gK h 24 = 1 := m.1.1.1.2.1.1.2
theorem X_k25 {h : Hp} (m : XS h) : gK h 25 = 20 := m.1.1.1.2.1.2.1
theorem X_n25 {h : Hp} (m : XS h) : gN h 25 = 44 := m.1.1.1.2.1.2.2.1
theorem X_k26 {h : Hp} (m : XS h) : gK h 26 = 20 := m.1.1.1.2.1.2.2.2
theorem X_n26 {h : Hp} (m : XS h) : gN h 26 = 8 := m.1.1.1.2.2.1.1
theorem X_k27 {h : Hp} (m : XS h) : gK h 27 = 20 := m.1.1.1.2.2.1.2.1
theorem X_n27 {h : Hp} (m : XS h) : gN h 27 = 8 := m.1.1.1.2.2.1.2.2
theorem X_k28 {h : Hp} (m : XS h) : gK h 28 = 23 := m.1.1.1.2.2.2.1
theorem X_n28 {h : Hp} (m : XS h) : gN h 28 = 2 := m.1.1.1.2.2.2.2.1
theorem X_k29 {h : Hp} (m : XS h) : gK h 29 = 22 := m.1.1.1.2.2.2.2.2
theorem X_n29 {h : Hp} (m : XS h) : gN h 29 = 2 := m.1.1.2.1.1.1.1
theorem X_k30 {h : Hp} (m : XS h) : gK h 30 = 0 := m.1.1.2.1.1.1.2
theorem X_k31 {h : Hp} (m : XS h) : gK h 31 = 20 := m.1.1.2.1.1.2.1
theorem X_n31 {h : Hp} (m : XS h) : gN h 31 = 20 := m.1.1.2.1.1.2.2.1
theorem X_k32 {h : Hp} (m : XS h) : gK h 32 = 20 := m.1.1.2.1.1.2.2.2
theorem X_n32 {h : Hp} (m : XS h) : gN h 32 = 20 := m.1.1.2.1.2.1.1
theorem X_k33 {h : Hp} (m : XS h) : gK h 33 = 20 := m.1.1.2.1.2.1.2.1
theorem X_n33 {h : Hp} (m : XS h) : gN h 33 = 20 := m.1.1.2.1.2.1.2.2
theorem X_k34 {h : Hp} (m : XS h) : gK h 34 = 20 := m.1.1.2.1.2.2.1
theorem X_n34 {h : Hp} (m : XS h) : gN h 34 = 160 := m.1.1.2.1.2.2.2.1
theorem X_k35 {h : Hp} (m : XS h) : gK h 35 = 7 := m.1.1.2.1.2.2.2.2
theorem X_k36 {h : Hp} (m : XS h) : gK h 36 = 20 := m.1.1.2.2.1.1.1
theorem X_n36 {h : Hp} (m : XS h) : gN h 36 = 3 := m.1.1.2.2.1.1.2
theorem X_k37 {h : Hp} (m : XS h) : gK h 37 = 20 := m.1.1.2.2.1.2.1
theorem X_n37 {h : Hp} (m : XS h) : gN h 37 = 8 := m.1.1.2.2.1.2.2.1
theorem X_k38 {h : Hp} (m : XS h) : gK h 38 = 20 := m.1.1.2.2.1.2.2.2
theorem X_n38 {h : Hp} (m : XS h) : gN h 38 = 8 := m.1.1.2.2.2.1.1
theorem X_k39 {h : Hp} (m : XS h) : gK h 39 = 20 := m.1.1.2.2.2.1.2.1
theorem X_n39 {h : Hp} (m : XS h) : gN h 39 = 24 := m.1.1.2.2.2.1.2.2
theorem X_k40 {h : Hp} (m : XS h) : gK h 40 = 20 := m.1.1.2.2.2.2.1
theorem X_n40 {h : Hp} (m : XS h) : gN h 40 = 24 := m.1.1.2.2.2.2.2.1
theorem X_k41 {h : Hp} (m : XS h) : gK h 41 = 20 := m.1.1.2.2.2.2.2.2
theorem X_n41 {h : Hp} (m : XS h) : gN h 41 = 24 := m.1.2.1.1.1.1.1
theorem X_k42 {h : Hp} (m : XS h) : gK h 42 = 9 := m.1.2.1.1.1.1.2
theorem X_k43 {h : Hp} (m : XS h) : gK h 43 = 20 := m.1.2.1.1.1.2.1
theorem X_n43 {h : Hp} (m : XS h) : gN h 43 = 39 := m.1.2.1.1.1.2.2.1
theorem X_k44 {h : Hp} (m : XS h) : gK h 44 = 20 := m.1.2.1.1.1.2.2.2
theorem X_n44 {h : Hp} (m : XS h) : gN h 44 = 39 := m.1.2.1.1.2.1.1
theorem X_k45 {h : Hp} (m : XS h) : gK h 45 = 20 := m.1.2.1.1.2.1.2.1
theorem X_n45 {h : Hp} (m : XS h) : gN h 45 = 3 := m.1.2.1.1.2.1.2.2
theorem X_k50 {h : Hp} (m : XS h) : gK h 50 = 6 := m.1.2.1.1.2.2.1
theorem X_k51 {h : Hp} (m : XS h) : gK h 51 = 20 := m.1.2.1.1.2.2.2.1
theorem X_n51 {h : Hp} (m : XS h) : gN h 51 = 8 := m.1.2.1.1.2.2.2.2
theorem X_k52 {h : Hp} (m : XS h) : gK h 52 = 20 := m.1.2.1.2.1.1.1
theorem X_n52 {h : Hp} (m : XS h) : gN h 52 = 8 := m.1.2.1.2.1.1.2
theorem X_k53 {h : Hp} (m : XS h) : gK h 53 = 20 := m.1.2.1.2.1.2.1
theorem X_n53 {h : Hp} (m : XS h) : gN h 53 = 12 := m.1.2.1.2.1.2.2.1
theorem X_k54 {h : Hp} (m : XS h) : gK h 54 = 20 := m.1.2.1.2.1.2.2.2
theorem X_n54 {h : Hp} (m : XS h) : gN h 54 = 3 := m.1.2.1.2.2.1.1
theorem X_k55 {h : Hp} (m : XS h) : gK h 55 = 20 := m.1.2.1.2.2.1.2.1
theorem X_n55 {h : Hp} (m : XS h) : gN h 55 = 1296 := m.1.2.1.2.2.1.2.2
theorem X_k56 {h : Hp} (m : XS h) : gK h 56 = 2 := m.1.2.1.2.2.2.1
theorem X_k57 {h : Hp} (m : XS h) : gK h 57 = 21 := m.1.2.1.2.2.2.2.1
theorem X_n57 {h : Hp} (m : XS h) : gN h 57 = 20 := m.1.2.1.2.2.2.2.2
theorem X_k58 {h : Hp} (m : XS h) : gK h 58 = 20 := m.1.2.2.1.1.1.1
theorem X_n58 {h : Hp} (m : XS h) : gN h 58 = 4 := m.1.2.2.1.1.1.2
theorem X_k59 {h : Hp} (m : XS h) : gK h 59 = 21 := m.1.2.2.1.1.2.1
theorem X_n59 {h : Hp} (m : XS h) : gN h 59 = 8 := m.1.2.2.1.1.2.2.1
theorem X_k60 {h : Hp} (m : XS h) : gK h 60 = 4 := m.1.2.2.1.1.2.2.2
theorem X_k61 {h : Hp} (m : XS h) : gK h 61 = 20 := m.1.2.2.1.2.1.1
theorem X_n61 {h : Hp} (m : XS h) : gN h 61 = 5 := m.1.2.2.1.2.1.2.1
theorem X_k62 {h : Hp} (m : XS h) : gK h 62 = 20 := m.1.2.2.1.2.1.2.2
theorem X_n62 {h : Hp} (m : XS h) : gN h 62 = 165 := m.1.2.2.1.2.2.1
theorem X_k63 {h : Hp} (m : XS h) : gK h 63 = 20 := m.1.2.2.1.2.2.2.1
theorem X_n63 {h : Hp} (m : XS h) : gN h 63 = 165 := m.1.2.2.1.2.2.2.2
theorem X_k64 {h : Hp} (m : XS h) : gK h 64 = 20 := m.1.2.2.2.1.1.1
theorem X_n64 {h : Hp} (m : XS h) : gN h 64 = 165 := m.1.2.2.2.1.1.2
theorem X_k65 {h : Hp} (m : XS h) : gK h 65 = 3 := m.1.2.2.2.1.2.1
theorem X_k66 {h : Hp} (m : XS h) : gK h 66 = 20 := m.1.2.2.2.1.2.2.1
theorem X_n66 {h : Hp} (m : XS h) : gN h 66 = 5 := m.1.2.2.2.1.2.2.2
theorem X_k67 {h : Hp} (m : XS h) : gK h 67 = 20 := m.1.2.2.2.2.1.1
theorem X_n67 {h : Hp} (m : XS h) : gN h 67 = 3 := m.1.2.2.2.2.1.2.1
theorem X_k68 {h : Hp} (m : XS h) : gK h 68 = 20 := m.1.2.2.2.2.1.2.2
theorem X_n68 {h : Hp} (m : XS h) : gN h 68 = 3 := m.1.2.2.2.2.2.1
theorem X_k69 {h : Hp} (m : XS h) : gK h 69 = 20 := m.1.2.2.2.2.2.2.1
theorem X_n69 {h : Hp} (m : XS h) : gN h 69 = 343 := m.1.2.2.2.2.2.2.2
theorem X_k70 {h : Hp} (m : XS h) : gK h 70 = 20 := m.2.1.1.1.1.1.1
theorem X_n70 {h : Hp} (m : XS h) : gN h 70 = 2058 := m.2.1.1.1.1.1.2
theorem X_k71 {h : Hp} (m : XS h) : gK h 71 = 5 := m.2.1.1.1.1.2.1
theorem X_k72 {h : Hp} (m : XS h) : gK h 72 = 20 := m.2.1.1.1.1.2.2.1
theorem X_n72 {h : Hp} (m : XS h) : gN h 72 = 20 := m.2.1.1.1.1.2.2.2
theorem X_k73 {h : Hp} (m : XS h) : gK h 73 = 20 := m.2.1.1.1.2.1.1
theorem X_n73 {h : Hp} (m : XS h) : gN h 73 = 20 := m.2.1.1.1.2.1.2.1
theorem X_k74 {h : Hp} (m : XS h) : gK h 74 = 20 := m.2.1.1.1.2.1.2.2
theorem X_n74 {h : Hp} (m : XS h) : gN h 74 = 20 := m.2.1.1.1.2.2.1
theorem X_k75 {h : Hp} (m : XS h) : gK h 75 = 20 := m.2.1.1.1.2.2.2.1
theorem X_n75 {h : Hp} (m : XS h) : gN h 75 = 162 := m.2.1.1.1.2.2.2.2
theorem X_k76 {h : Hp} (m : XS h) : gK h 76 = 20 := m.2.1.1.2.1.1.1
theorem X_n76 {h : Hp} (m : XS h) : gN h 76 = 3 := m.2.1.1.2.1.1.2
theorem X_k77 {h : Hp} (m : XS h) : gK h 77 = 1 := m.2.1.1.2.1.2.1
theorem X_k78 {h : Hp} (m : XS h) : gK h 78 = 20 := m.2.1.1.2.1.2.2.1
theorem X_n78 {h : Hp} (m : XS h) : gN h 78 = 44 := m.2.1.1.2.1.2.2.2
theorem X_k79 {h : Hp} (m : XS h) : gK h 79 = 1 := m.2.1.1.2.2.1.1
theorem X_k80 {h : Hp} (m : XS h) : gK h 80 = 20 := m.2.1.1.2.2.1.2.1
theorem X_n80 {h : Hp} (m : XS h) : gN h 80 = 44 := m.2.1.1.2.2.1.2.2
theorem X_r16_0 {h : Hp} (m : XS h) : gR h 16 0 = 17 := m.2.1.1.2.2.2.1
theorem X_r16_1 {h : Hp} (m : XS h) : gR h 16 1 = 19 := m.2.1.1.2.2.2.2.1
theorem X_r16_2 {h : Hp} (m : XS h) : gR h 16 2 = 21 := m.2.1.1.2.2.2.2.2
theorem X_r16_3 {h : Hp} (m : XS h) : gR h 16 3 = 23 := m.2.1.2.1.1.1.1
theorem X_r16_4 {h : Hp} (m : XS h) : gR h 16 4 = 28 := m.2.1.2.1.1.1.2
theorem X_r16_5 {h : Hp} (m : XS h) : gR h 16 5 = 29 := m.2.1.2.1.1.2.1
theorem X_r16_6 {h : Hp} (m : XS h) : gR h 16 6 = 30 := m.2.1.2.1.1.2.2.1
theorem X_r16_7 {h : Hp} (m : XS h) : gR h 16 7 = 35 := m.2.1.2.1.1.2.2.2
theorem X_r16_8 {h : Hp} (m : XS h) : gR h 16 8 = 42 := m.2.1.2.1.2.1.1
theorem X_r16_9 {h : Hp} (m : XS h) : gR h 16 9 = 50 := m.2.1.2.1.2.1.2.1
theorem X_r16_10 {h : Hp} (m : XS h) : gR h 16 10 = 56 := m.2.1.2.1.2.1.2.2
theorem X_r16_11 {h : Hp} (m : XS h) : gR h 16 11 = 60 := m.2.1.2.1.2.2.1
theorem X_r16_12 {h : Hp} (m : XS h) : gR h 16 12 = 65 := m.2.1.2.1.2.2.2.1
theorem X_r16_13 {h : Hp} (m : XS h) : gR h 16 13 = 71 := m.2.1.2.1.2.2.2.2
theorem X_r16_14 {h : Hp} (m : XS h) : gR h 16 14 = 76 := m.2.1.2.2.1.1.1
theorem X_r17_0 {h : Hp} (m : XS h) : gR h 17 0 = 18 := m.2.1.2.2.1.1.2
theorem X_r19_0 {h : Hp} (m : XS h) : gR h 19 0 = 20 := m.2.1.2.2.1.2.1
theorem X_r21_0 {h : Hp} (m : XS h) : gR h 21 0 = 22 := m.2.1.2.2.1.2.2.1
theorem X_r23_0 {h : Hp} (m : XS h) : gR h 23 0 = 17 := m.2.1.2.2.1.2.2.2
theorem X_r23_1 {h : Hp} (m : XS h) : gR h 23 1 = 24 := m.2.1.2.2.2.1.1
theorem X_r23_2 {h : Hp} (m : XS h) : gR h 23 2 = 26 := m.2.1.2.2.2.1.2.1
theorem X_r23_3 {h : Hp} (m : XS h) : gR h 23 3 = 27 := m.2.1.2.2.2.1.2.2
theorem X_r24_0 {h : Hp} (m : XS h) : gR h 24 0 = 25 := m.2.1.2.2.2.2.1
theorem X_r28_0 {h : Hp} (m : XS h) : gR h 28 0 = 77 := m.2.1.2.2.2.2.2.1
theorem X_r28_1 {h : Hp} (m : XS h) : gR h 28 1 = 79 := m.2.1.2.2.2.2.2.2
theorem X_r30_0 {h : Hp} (m : XS h) : gR h 30 0 = 31 := m.2.2.1.1.1.1.1
theorem X_r30_1 {h : Hp} (m : XS h) : gR h 30 1 = 32 := m.2.2.1.1.1.1.2
theorem X_r30_2 {h : Hp} (m : XS h) : gR h 30 2 = 33 := m.2.2.1.1.1.2.1
theorem X_r30_3 {h : Hp} (m : XS h) : gR h 30 3 = 34 := m.2.2.1.1.1.2.2.1
theorem X_r35_0 {h : Hp} (m : XS h) : gR h 35 0 = 36 := m.2.2.1.1.1.2.2.2
theorem X_r35_1 {h : Hp} (m : XS h) : gR h 35 1 = 37 := m.2.2.1.1.2.1.1
theorem X_r35_2 {h : Hp} (m : XS h) : gR h 35 2 = 38 := m.2.2.1.1.2.1.2.1
theorem X_r35_3 {h : Hp} (m : XS h) : gR h 35 3 = 39 := m.2.2.1.1.2.1.2.2
theorem X_r35_4 {h : Hp} (m : XS h) : gR h 35 4 = 40 := m.2.2.1.1.2.2.1
theorem X_r35_5 {h : Hp} (m : XS h) : gR h 35 5 = 41 := m.2.2.1.1.2.2.2.1
theorem X_r42_0 {h : Hp} (m : XS h) : gR h 42 0 = 21 := m.2.2.1.1.2.2.2.2
theorem X_r42_1 {h : Hp} (m : XS h) : gR h 42 1 = 43 := m.2.2.1.2.1.1.1
theorem X_r42_2 {h : Hp} (m : XS h) : gR h 42 2 = 44 := m.2.2.1.2.1.1.2
theorem X_r42_3 {h : Hp} (m : XS h) : gR h 42 3 = 45 := m.2.2.1.2.1.2.1
theorem X_r50_0 {h : Hp} (m : XS h) : gR h 50 0 = 21 := m.2.2.1.2.1.2.2.1
theorem X_r50_1 {h : Hp} (m : XS h) : gR h 50 1 = 35 := m.2.2.1.2.1.2.2.2
theorem X_r50_2 {h : Hp} (m : XS h) : gR h 50 2 = 51 := m.2.2.1.2.2.1.1
theorem X_r50_3 {h : Hp} (m : XS h) : gR h 50 3 = 52 := m.2.2.1.2.2.1.2.1
theorem X_r50_4 {h : Hp} (m : XS h) : gR h 50 4 = 53 := m.2.2.1.2.2.1.2.2
theorem X_r50_5 {h : Hp} (m : XS h) : gR h 50 5 = 54 := m.2.2.1.2.2.2.1
theorem X_r50_6 {h : Hp} (m : XS h) : gR h 50 6 = 55 := m.2.2.1.2.2.2.2.1
theorem X_r56_0 {h : Hp} (m : XS h) : gR h 56 0 = 21 := m.2.2.1.2.2.2.2.2
theorem X_r56_1 {h : Hp} (m : XS h) : gR h 56 1 = 57 := m.2.2.2.1.1.1.1
theorem X_r56_2 {h : Hp} (m : XS h) : gR h 56 2 = 58 := m.2.2.2.1.1.1.2
theorem X_r56_3 {h : Hp} (m : XS h) : gR h 56 3 = 59 := m.2.2.2.1.1.2.1
theorem X_r60_0 {h : Hp} (m : XS h) : gR h 60 0 = 21 := m.2.2.2.1.1.2.2.1
theorem X_r60_1 {h : Hp} (m : XS h) : gR h 60 1 = 61 := m.2.2.2.1.1.2.2.2
theorem X_r60_2 {h : Hp} (m : XS h) : gR h 60 2 = 62 := m.2.2.2.1.2.1.1
theorem X_r60_3 {h : Hp} (m : XS h) : gR h 60 3 = 63 := m.2.2.2.1.2.1.2.1
theorem X_r60_4 {h : Hp} (m : XS h) : gR h 60 4 = 64 := m.2.2.2.1.2.1.2.2
theorem X_r65_0 {h : Hp} (m : XS h) : gR h 65 0 = 21 := m.2.2.2.1.2.2.1
theorem X_r65_1 {h : Hp} (m : XS h) : gR h 65 1 = 66 := m.2.2.2.1.2.2.2.1
theorem X_r65_2 {h : Hp} (m : XS h) : gR h 65 2 = 67 := m.2.2.2.1.2.2.2.2
theorem X_r65_3 {h : Hp} (m : XS h) : gR h 65 3 = 68 := m.2.2.2.2.1.1.1
theorem X_r65_4 {h : Hp} (m : XS h) : gR h 65 4 = 69 := m.2.2.2.2.1.1.2
theorem X_r65_5 {h : Hp} (m : XS h) : gR h 65 5 = 70 := m.2.2.2.2.1.2.1
theorem X_r71_0 {h : Hp} (m : XS h) : gR h 71 0 = 19 := m.2.2.2.2.1.2.2.1
theorem X_r71_1 {h : Hp} (m : XS h) : gR h 71 1 = 35 := m.2.2.2.2.1.2.2.2
theorem X_r71_2 {h : Hp} (m : XS h) : gR h 71 2 = 72 := m.2.2.2.2.2.1.1
theorem X_r71_3 {h : Hp} (m : XS h) : gR h 71 3 = 73 := m.2.2.2.2.2.1.2.1
theorem X_r71_4 {h : Hp} (m : XS h) : gR h 71 4 = 74 := m.2.2.2.2.2.1.2.2
theorem X_r71_5 {h : Hp} (m : XS h) : gR h 71 5 = 75 := m.2.2.2.2.2.2.1
theorem X_r77_0 {h : Hp} (m : XS h) : gR h 77 0 = 78 := m.2.2.2.2.2.2.2.1
theorem X_r79_0 {h : Hp} (m : XS h) : gR h 79 0 = 80 := m.2.2.2.2.2.2.2.2
theorem XS_sI {h : Hp} {a k : Nat} {v : Int32} : XS (sI h a k v) ↔ XS h := Iff.rfl
theorem XS_sL {h : Hp} {a k : Nat} {v : Int64} : XS (sL h a k v) ↔ XS h := Iff.rfl
theorem XS_sA {h : Hp} {a : Nat} {f : Nat → Int32} : XS (sA h a f) ↔ XS h := Iff.rfl
theorem XS_sB {h : Hp} {a : Nat} {f : Nat → Int64} : XS (sB h a f) ↔ XS h := Iff.rfl
