/-! the reference object at b: its arrays stand behind it, in the order in which it makes them -/
def ModG (γ : Mu) (b : Int) : Prop := γ b 6 = b + 1 ∧ γ b 7 = b + 2 ∧ γ b 8 = b + 3 ∧ γ b 9 = b + 4 ∧ γ b 10 = b + 5 ∧ γ b 12 = b + 6 ∧ γ b 30 = b + 7 ∧ γ b 31 = b + 8 ∧ γ b 32 = b + 9 ∧ γ b 33 = b + 10 ∧ γ b 35 = b + 11 ∧ γ b 36 = b + 12 ∧ γ b 37 = b + 13 ∧ γ b 38 = b + 14 ∧ γ b 39 = b + 15 ∧ γ b 43 = b + 16 ∧ γ b 44 = b + 17 ∧ γ b 45 = b + 18 ∧ γ b 46 = b + 19 ∧ γ b 47 = b + 20 ∧ γ b 48 = b + 21 ∧ γ b 49 = b + 22 ∧ γ b 50 = b + 23 ∧ γ b 53 = b + 24 ∧ γ b 54 = b + 25 ∧ γ b 55 = b + 26 ∧ γ b 56 = b + 27 ∧ γ b 57 = b + 28 ∧ γ b 58 = b + 29 ∧ γ b 59 = b + 30 ∧ γ b 60 = b + 31 ∧ γ b 65 = b + 32 ∧ γ b 66 = b + 33 ∧ γ b 67 = b + 34 ∧ γ b 68 = b + 35 ∧ γ b 69 = b + 36 ∧ γ b 70 = b + 37 ∧ γ b 71 = b + 38 ∧ γ b 72 = b + 39
def ModS (G : Gx) (b : Int) : Prop := shO G b 9 73 ∧ shO G (b + 1) 11 1296 ∧ shO G (b + 2) 13 36 ∧ shO G (b + 3) 11 36 ∧ shO G (b + 4) 11 36 ∧ shO G (b + 5) 11 100 ∧ shO G (b + 6) 11 500 ∧ shO G (b + 7) 11 1296 ∧ shO G (b + 8) 11 40 ∧ shO G (b + 9) 11 40 ∧ shO G (b + 10) 13 36 ∧ shO G (b + 11) 11 1296 ∧ shO G (b + 12) 11 36 ∧ shO G (b + 13) 11 1296 ∧ shO G (b + 14) 11 36 ∧ shO G (b + 15) 11 36 ∧ shO G (b + 16) 11 36 ∧ shO G (b + 17) 11 36 ∧ shO G (b + 18) 11 36 ∧ shO G (b + 19) 11 1296 ∧ shO G (b + 20) 11 1296 ∧ shO G (b + 21) 11 1296 ∧ shO G (b + 22) 11 36 ∧ shO G (b + 23) 11 1296 ∧ shO G (b + 24) 11 36 ∧ shO G (b + 25) 11 36 ∧ shO G (b + 26) 11 36 ∧ shO G (b + 27) 11 36 ∧ shO G (b + 28) 11 1296 ∧ shO G (b + 29) 11 10001 ∧ shO G (b + 30) 11 10001 ∧ shO G (b + 31) 11 10001 ∧ shO G (b + 32) 11 36 ∧ shO G (b + 33) 11 36 ∧ shO G (b + 34) 11 20001 ∧ shO G (b + 35) 11 20001 ∧ shO G (b + 36) 13 4096 ∧ shO G (b + 37) 11 10836 ∧ shO G (b + 38) 13 4 ∧ shO G (b + 39) 11 144
theorem ModS.o {G : Gx} {b : Int} (h : ModS G b) : shO G b 9 73 := h.1
theorem mg6 {γ : Mu} {b : Int} (h : ModG γ b) : γ b 6 = b + 1 := h.1
theorem ms1 {G : Gx} {b : Int} (h : ModS G b) : shO G (b + 1) 11 1296 := h.2.1
theorem mx1 {G : Gx} {b i : Int} (h : ModS G b) (h0 : 0 ≤ i ∧ i < 1296) : ixA G 11 (b + 1) i := ixO (ms1 h) h0
theorem mg7 {γ : Mu} {b : Int} (h : ModG γ b) : γ b 7 = b + 2 := h.2.1
theorem ms2 {G : Gx} {b : Int} (h : ModS G b) : shO G (b + 2) 13 36 := h.2.2.1
theorem mx2 {G : Gx} {b i : Int} (h : ModS G b) (h0 : 0 ≤ i ∧ i < 36) : ixA G 13 (b + 2) i := ixO (ms2 h) h0
theorem mg8 {γ : Mu} {b : Int} (h : ModG γ b) : γ b 8 = b + 3 := h.2.2.1
theorem ms3 {G : Gx} {b : Int} (h : ModS G b) : shO G (b + 3) 11 36 := h.2.2.2.1
theorem mx3 {G : Gx} {b i : Int} (h : ModS G b) (h0 : 0 ≤ i ∧ i < 36) : ixA G 11 (b + 3) i := ixO (ms3 h) h0
theorem mg9 {γ : Mu} {b : Int} (h : ModG γ b) : γ b 9 = b + 4 := h.2.2.2.1
theorem ms4 {G : Gx} {b : Int} (h : ModS G b) : shO G (b + 4) 11 36 := h.2.2.2.2.1
theorem mx4 {G : Gx} {b i : Int} (h : ModS G b) (h0 : 0 ≤ i ∧ i < 36) : ixA G 11 (b + 4) i := ixO (ms4 h) h0
theorem mg10 {γ : Mu} {b : Int} (h : ModG γ b) : γ b 10 = b + 5 := h.2.2.2.2.1
theorem ms5 {G : Gx} {b : Int} (h : ModS G b) : shO G (b + 5) 11 100 := h.2.2.2.2.2.1
theorem mx5 {G : Gx} {b i : Int} (h : ModS G b) (h0 : 0 ≤ i ∧ i < 100) : ixA G 11 (b + 5) i := ixO (ms5 h) h0
theorem mg12 {γ : Mu} {b : Int} (h : ModG γ b) : γ b 12 = b + 6 := h.2.2.2.2.2.1
theorem ms6 {G : Gx} {b : Int} (h : ModS G b) : shO G (b + 6) 11 500 := h.2.2.2.2.2.2.1
theorem mx6 {G : Gx} {b i : Int} (h : ModS G b) (h0 : 0 ≤ i ∧ i < 500) : ixA G 11 (b + 6) i := ixO (ms6 h) h0
theorem mg30 {γ : Mu} {b : Int} (h : ModG γ b) : γ b 30 = b + 7 := h.2.2.2.2.2.2.1
theorem ms7 {G : Gx} {b : Int} (h : ModS G b) : shO G (b + 7) 11 1296 := h.2.2.2.2.2.2.2.1
theorem mx7 {G : Gx} {b i : Int} (h : ModS G b) (h0 : 0 ≤ i ∧ i < 1296) : ixA G 11 (b + 7) i := ixO (ms7 h) h0
theorem mg31 {γ : Mu} {b : Int} (h : ModG γ b) : γ b 31 = b + 8 := h.2.2.2.2.2.2.2.1
theorem ms8 {G : Gx} {b : Int} (h : ModS G b) : shO G (b + 8) 11 40 := h.2.2.2.2.2.2.2.2.1
theorem mx8 {G : Gx} {b i : Int} (h : ModS G b) (h0 : 0 ≤ i ∧ i < 40) : ixA G 11 (b + 8) i := ixO (ms8 h) h0
theorem mg32 {γ : Mu} {b : Int} (h : ModG γ b) : γ b 32 = b + 9 := h.2.2.2.2.2.2.2.2.1
theorem ms9 {G : Gx} {b : Int} (h : ModS G b) : shO G (b + 9) 11 40 := h.2.2.2.2.2.2.2.2.2.1
theorem mx9 {G : Gx} {b i : Int} (h : ModS G b) (h0 : 0 ≤ i ∧ i < 40) : ixA G 11 (b + 9) i := ixO (ms9 h) h0
theorem mg33 {γ : Mu} {b : Int} (h : ModG γ b) : γ b 33 = b + 10 := h.2.2.2.2.2.2.2.2.2.1
theorem ms10 {G : Gx} {b : Int} (h : ModS G b) : shO G (b + 10) 13 36 := h.2.2.2.2.2.2.2.2.2.2.1
theorem mx10 {G : Gx} {b i : Int} (h : ModS G b) (h0 : 0 ≤ i ∧ i < 36) : ixA G 13 (b + 10) i := ixO (ms10 h) h0
theorem mg35 {γ : Mu} {b : Int} (h : ModG γ b) : γ b 35 = b + 11 := h.2.2.2.2.2.2.2.2.2.2.1
theorem ms11 {G : Gx} {b : Int} (h : ModS G b) : shO G (b + 11) 11 1296 := h.2.2.2.2.2.2.2.2.2.2.2.1
theorem mx11 {G : Gx} {b i : Int} (h : ModS G b) (h0 : 0 ≤ i ∧ i < 1296) : ixA G 11 (b + 11) i := ixO (ms11 h) h0
theorem mg36 {γ : Mu} {b : Int} (h : ModG γ b) : γ b 36 = b + 12 := h.2.2.2.2.2.2.2.2.2.2.2.1
theorem ms12 {G : Gx} {b : Int} (h : ModS G b) : shO G (b + 12) 11 36 := h.2.2.2.2.2.2.2.2.2.2.2.2.1
theorem mx12 {G : Gx} {b i : Int} (h : ModS G b) (h0 : 0 ≤ i ∧ i < 36) : ixA G 11 (b + 12) i := ixO (ms12 h) h0
theorem mg37 {γ : Mu} {b : Int} (h : ModG γ b) : γ b 37 = b + 13 := h.2.2.2.2.2.2.2.2.2.2.2.2.1
theorem ms13 {G : Gx} {b : Int} (h : ModS G b) : shO G (b + 13) 11 1296 := h.2.2.2.2.2.2.2.2.2.2.2.2.2.1
theorem mx13 {G : Gx} {b i : Int} (h : ModS G b) (h0 : 0 ≤ i ∧ i < 1296) : ixA G 11 (b + 13) i := ixO (ms13 h) h0
theorem mg38 {γ : Mu} {b : Int} (h : ModG γ b) : γ b 38 = b + 14 := h.2.2.2.2.2.2.2.2.2.2.2.2.2.1
theorem ms14 {G : Gx} {b : Int} (h : ModS G b) : shO G (b + 14) 11 36 := h.2.2.2.2.2.2.2.2.2.2.2.2.2.2.1
theorem mx14 {G : Gx} {b i : Int} (h : ModS G b) (h0 : 0 ≤ i ∧ i < 36) : ixA G 11 (b + 14) i := ixO (ms14 h) h0
theorem mg39 {γ : Mu} {b : Int} (h : ModG γ b) : γ b 39 = b + 15 := h.2.2.2.2.2.2.2.2.2.2.2.2.2.2.1
theorem ms15 {G : Gx} {b : Int} (h : ModS G b) : shO G (b + 15) 11 36 := h.2.2.2.2.2.2.2.2.2.2.2.2.2.2.2.1
theorem mx15 {G : Gx} {b i : Int} (h : ModS G b) (h0 : 0 ≤ i ∧ i < 36) : ixA G 11 (b + 15) i := ixO (ms15 h) h0
theorem mg43 {γ : Mu} {b : Int} (h : ModG γ b) : γ b 43 = b + 16 := h.2.2.2.2.2.2.2.2.2.2.2.2.2.2.2.1
theorem ms16 {G : Gx} {b : Int} (h : ModS G b) : shO G (b + 16) 11 36 := h.2.2.2.2.2.2.2.2.2.2.2.2.2.2.2.2.1
theorem mx16 {G : Gx} {b i : Int} (h : ModS G b) (h0 : 0 ≤ i ∧ i < 36) : ixA G 11 (b + 16) i := ixO (ms16 h) h0
theorem mg44 {γ : Mu} {b : Int} (h : ModG γ b) : γ b 44 = b + 17 := h.2.2.2.2.2.2.2.2.2.2.2.2.2.2.2.2.1
theorem ms17 {G : Gx} {b : Int} (h : ModS G b) : shO G (b + 17) 11 36 := h.2.2.2.2.2.2.2.2.2.2.2.2.2.2.2.2.2.1
theorem mx17 {G : Gx} {b i : Int} (h : ModS G b) (h0 : 0 ≤ i ∧ i < 36) : ixA G 11 (b + 17) i := ixO (ms17 h) h0
theorem mg45 {γ : Mu} {b : Int} (h : ModG γ b) : γ b 45 = b + 18 := h.2.2.2.2.2.2.2.2.2.2.2.2.2.2.2.2.2.1
theorem ms18 {G : Gx} {b : Int} (h : ModS G b) : shO G (b + 18) 11 36 := h.2.2.2.2.2.2.2.2.2.2.2.2.2.2.2.2.2.2.1
theorem mx18 {G : Gx} {b i : Int} (h : ModS G b) (h0 : 0 ≤ i ∧ i < 36) : ixA G 11 (b + 18) i := ixO (ms18 h) h0
theorem mg46 {γ : Mu} {b : Int} (h : ModG γ b) : γ b 46 = b + 19 := h.2.2.2.2.2.2.2.2.2.2.2.2.2.2.2.2.2.2.1
theorem ms19 {G : Gx} {b : Int} (h : ModS G b) : shO G (b + 19) 11 1296 := h.2.2.2.2.2.2.2.2.2.2.2.2.2.2.2.2.2.2.2.1
theorem mx19 {G : Gx} {b i : Int} (h : ModS G b) (h0 : 0 ≤ i ∧ i < 1296) : ixA G 11 (b + 19) i := ixO (ms19 h) h0
theorem mg47 {γ : Mu} {b : Int} (h : ModG γ b) : γ b 47 = b + 20 := h.2.2.2.2.2.2.2.2.2.2.2.2.2.2.2.2.2.2.2.1
theorem ms20 {G : Gx} {b : Int} (h : ModS G b) : shO G (b + 20) 11 1296 := h.2.2.2.2.2.2.2.2.2.2.2.2.2.2.2.2.2.2.2.2.1
theorem mx20 {G : Gx} {b i : Int} (h : ModS G b) (h0 : 0 ≤ i ∧ i < 1296) : ixA G 11 (b + 20) i := ixO (ms20 h) h0
theorem mg48 {γ : Mu} {b : Int} (h : ModG γ b) : γ b 48 = b + 21 := h.2.2.2.2.2.2.2.2.2.2.2.2.2.2.2.2.2.2.2.2.1
theorem ms21 {G : Gx} {b : Int} (h : ModS G b) : shO G (b + 21) 11 1296 := h.2.2.2.2.2.2.2.2.2.2.2.2.2.2.2.2.2.2.2.2.2.1
theorem mx21 {G : Gx} {b i : Int} (h : ModS G b) (h0 : 0 ≤ i ∧ i < 1296) : ixA G 11 (b + 21) i := ixO (ms21 h) h0
theorem mg49 {γ : Mu} {b : Int} (h : ModG γ b) : γ b 49 = b + 22 := h.2.2.2.2.2.2.2.2.2.2.2.2.2.2.2.2.2.2.2.2.2.1
theorem ms22 {G : Gx} {b : Int} (h : ModS G b) : shO G (b + 22) 11 36 := h.2.2.2.2.2.2.2.2.2.2.2.2.2.2.2.2.2.2.2.2.2.2.1
theorem mx22 {G : Gx} {b i : Int} (h : ModS G b) (h0 : 0 ≤ i ∧ i < 36) : ixA G 11 (b + 22) i := ixO (ms22 h) h0
theorem mg50 {γ : Mu} {b : Int} (h : ModG γ b) : γ b 50 = b + 23 := h.2.2.2.2.2.2.2.2.2.2.2.2.2.2.2.2.2.2.2.2.2.2.1
theorem ms23 {G : Gx} {b : Int} (h : ModS G b) : shO G (b + 23) 11 1296 := h.2.2.2.2.2.2.2.2.2.2.2.2.2.2.2.2.2.2.2.2.2.2.2.1
theorem mx23 {G : Gx} {b i : Int} (h : ModS G b) (h0 : 0 ≤ i ∧ i < 1296) : ixA G 11 (b + 23) i := ixO (ms23 h) h0
theorem mg53 {γ : Mu} {b : Int} (h : ModG γ b) : γ b 53 = b + 24 := h.2.2.2.2.2.2.2.2.2.2.2.2.2.2.2.2.2.2.2.2.2.2.2.1
theorem ms24 {G : Gx} {b : Int} (h : ModS G b) : shO G (b + 24) 11 36 := h.2.2.2.2.2.2.2.2.2.2.2.2.2.2.2.2.2.2.2.2.2.2.2.2.1
theorem mx24 {G : Gx} {b i : Int} (h : ModS G b) (h0 : 0 ≤ i ∧ i < 36) : ixA G 11 (b + 24) i := ixO (ms24 h) h0
theorem mg54 {γ : Mu} {b : Int} (h : ModG γ b) : γ b 54 = b + 25 := h.2.2.2.2.2.2.2.2.2.2.2.2.2.2.2.2.2.2.2.2.2.2.2.2.1
theorem ms25 {G : Gx} {b : Int} (h : ModS G b) : shO G (b + 25) 11 36 := h.2.2.2.2.2.2.2.2.2.2.2.2.2.2.2.2.2.2.2.2.2.2.2.2.2.1
theorem mx25 {G : Gx} {b i : Int} (h : ModS G b) (h0 : 0 ≤ i ∧ i < 36) : ixA G 11 (b + 25) i := ixO (ms25 h) h0
theorem mg55 {γ : Mu} {b : Int} (h : ModG γ b) : γ b 55 = b + 26 := h.2.2.2.2.2.2.2.2.2.2.2.2.2.2.2.2.2.2.2.2.2.2.2.2.2.1
theorem ms26 {G : Gx} {b : Int} (h : ModS G b) : shO G (b + 26) 11 36 := h.2.2.2.2.2.2.2.2.2.2.2.2.2.2.2.2.2.2.2.2.2.2.2.2.2.2.1
theorem mx26 {G : Gx} {b i : Int} (h : ModS G b) (h0 : 0 ≤ i ∧ i < 36) : ixA G 11 (b + 26) i := ixO (ms26 h) h0
theorem mg56 {γ : Mu} {b : Int} (h : ModG γ b) : γ b 56 = b + 27 := h.2.2.2.2.2.2.2.2.2.2.2.2.2.2.2.2.2.2.2.2.2.2.2.2.2.2.1
theorem ms27 {G : Gx} {b : Int} (h : ModS G b) : shO G (b + 27) 11 36 := h.2.2.2.2.2.2.2.2.2.2.2.2.2.2.2.2.2.2.2.2.2.2.2.2.2.2.2.1
theorem mx27 {G : Gx} {b i : Int} (h : ModS G b) (h0 : 0 ≤ i ∧ i < 36) : ixA G 11 (b + 27) i := ixO (ms27 h) h0
theorem mg57 {γ : Mu} {b : Int} (h : ModG γ b) : γ b 57 = b + 28 := h.2.2.2.2.2.2.2.2.2.2.2.2.2.2.2.2.2.2.2.2.2.2.2.2.2.2.2.1
theorem ms28 {G : Gx} {b : Int} (h : ModS G b) : shO G (b + 28) 11 1296 := h.2.2.2.2.2.2.2.2.2.2.2.2.2.2.2.2.2.2.2.2.2.2.2.2.2.2.2.2.1
theorem mx28 {G : Gx} {b i : Int} (h : ModS G b) (h0 : 0 ≤ i ∧ i < 1296) : ixA G 11 (b + 28) i := ixO (ms28 h) h0
theorem mg58 {γ : Mu} {b : Int} (h : ModG γ b) : γ b 58 = b + 29 := h.2.2.2.2.2.2.2.2.2.2.2.2.2.2.2.2.2.2.2.2.2.2.2.2.2.2.2.2.1
theorem ms29 {G : Gx} {b : Int} (h : ModS G b) : shO G (b + 29) 11 10001 := h.2.2.2.2.2.2.2.2.2.2.2.2.2.2.2.2.2.2.2.2.2.2.2.2.2.2.2.2.2.1
theorem mx29 {G : Gx} {b i : Int} (h : ModS G b) (h0 : 0 ≤ i ∧ i < 10001) : ixA G 11 (b + 29) i := ixO (ms29 h) h0
theorem mg59 {γ : Mu} {b : Int} (h : ModG γ b) : γ b 59 = b + 30 := h.2.2.2.2.2.2.2.2.2.2.2.2.2.2.2.2.2.2.2.2.2.2.2.2.2.2.2.2.2.1
theorem ms30 {G : Gx} {b : Int} (h : ModS G b) : shO G (b + 30) 11 10001 := h.2.2.2.2.2.2.2.2.2.2.2.2.2.2.2.2.2.2.2.2.2.2.2.2.2.2.2.2.2.2.1
theorem mx30 {G : Gx} {b i : Int} (h : ModS G b) (h0 : 0 ≤ i ∧ i < 10001) : ixA G 11 (b + 30) i := ixO (ms30 h) h0
theorem mg60 {γ : Mu} {b : Int} (h : ModG γ b) : γ b 60 = b + 31 := h.2.2.2.2.2.2.2.2.2.2.2.2.2.2.2.2.2.2.2.2.2.2.2.2.2.2.2.2.2.2.1
theorem ms31 {G : Gx} {b : Int} (h : ModS G b) : shO G (b + 31) 11 10001 := h.2.2.2.2.2.2.2.2.2.2.2.2.2.2.2.2.2.2.2.2.2.2.2.2.2.2.2.2.2.2.2.1
theorem mx31 {G : Gx} {b i : Int} (h : ModS G b) (h0 : 0 ≤ i ∧ i < 10001) : ixA G 11 (b + 31) i := ixO (ms31 h) h0
theorem mg65 {γ : Mu} {b : Int} (h : ModG γ b) : γ b 65 = b + 32 := h.2.2.2.2.2.2.2.2.2.2.2.2.2.2.2.2.2.2.2.2.2.2.2.2.2.2.2.2.2.2.2.1
theorem ms32 {G : Gx} {b : Int} (h : ModS G b) : shO G (b + 32) 11 36 := h.2.2.2.2.2.2.2.2.2.2.2.2.2.2.2.2.2.2.2.2.2.2.2.2.2.2.2.2.2.2.2.2.1
theorem mx32 {G : Gx} {b i : Int} (h : ModS G b) (h0 : 0 ≤ i ∧ i < 36) : ixA G 11 (b + 32) i := ixO (ms32 h) h0
theorem mg66 {γ : Mu} {b : Int} (h : ModG γ b) : γ b 66 = b + 33 := h.2.2.2.2.2.2.2.2.2.2.2.2.2.2.2.2.2.2.2.2.2.2.2.2.2.2.2.2.2.2.2.2.1
theorem ms33 {G : Gx} {b : Int} (h : ModS G b) : shO G (b + 33) 11 36 := h.2.2.2.2.2.2.2.2.2.2.2.2.2.2.2.2.2.2.2.2.2.2.2.2.2.2.2.2.2.2.2.2.2.1
theorem mx33 {G : Gx} {b i : Int} (h : ModS G b) (h0 : 0 ≤ i ∧ i < 36) : ixA G 11 (b + 33) i := ixO (ms33 h) h0
theorem mg67 {γ : Mu} {b : Int} (h : ModG γ b) : γ b 67 = b + 34 := h.2.2.2.2.2.2.2.2.2.2.2.2.2.2.2.2.2.2.2.2.2.2.2.2.2.2.2.2.2.2.2.2.2.1
theorem ms34 {G : Gx} {b : Int} (h : ModS G b) : shO G (b + 34) 11 20001 := h.2.2.2.2.2.2.2.2.2.2.2.2.2.2.2.2.2.2.2.2.2.2.2.2.2.2.2.2.2.2.2.2.2.2.1
theorem mx34 {G : Gx} {b i : Int} (h : ModS G b) (h0 : 0 ≤ i ∧ i < 20001) : ixA G 11 (b + 34) i := ixO (ms34 h) h0
theorem mg68 {γ : Mu} {b : Int} (h : ModG γ b) : γ b 68 = b + 35 := h.2.2.2.2.2.2.2.2.2.2.2.2.2.2.2.2.2.2.2.2.2.2.2.2.2.2.2.2.2.2.2.2.2.2.1
theorem ms35 {G : Gx} {b : Int} (h : ModS G b) : shO G (b + 35) 11 20001 := h.2.2.2.2.2.2.2.2.2.2.2.2.2.2.2.2.2.2.2.2.2.2.2.2.2.2.2.2.2.2.2.2.2.2.2.1
theorem mx35 {G : Gx} {b i : Int} (h : ModS G b) (h0 : 0 ≤ i ∧ i < 20001) : ixA G 11 (b + 35) i := ixO (ms35 h) h0
theorem mg69 {γ : Mu} {b : Int} (h : ModG γ b) : γ b 69 = b + 36 := h.2.2.2.2.2.2.2.2.2.2.2.2.2.2.2.2.2.2.2.2.2.2.2.2.2.2.2.2.2.2.2.2.2.2.2.1
theorem ms36 {G : Gx} {b : Int} (h : ModS G b) : shO G (b + 36) 13 4096 := h.2.2.2.2.2.2.2.2.2.2.2.2.2.2.2.2.2.2.2.2.2.2.2.2.2.2.2.2.2.2.2.2.2.2.2.2.1
theorem mx36 {G : Gx} {b i : Int} (h : ModS G b) (h0 : 0 ≤ i ∧ i < 4096) : ixA G 13 (b + 36) i := ixO (ms36 h) h0
theorem mg70 {γ : Mu} {b : Int} (h : ModG γ b) : γ b 70 = b + 37 := h.2.2.2.2.2.2.2.2.2.2.2.2.2.2.2.2.2.2.2.2.2.2.2.2.2.2.2.2.2.2.2.2.2.2.2.2.1
theorem ms37 {G : Gx} {b : Int} (h : ModS G b) : shO G (b + 37) 11 10836 := h.2.2.2.2.2.2.2.2.2.2.2.2.2.2.2.2.2.2.2.2.2.2.2.2.2.2.2.2.2.2.2.2.2.2.2.2.2.1
theorem mx37 {G : Gx} {b i : Int} (h : ModS G b) (h0 : 0 ≤ i ∧ i < 10836) : ixA G 11 (b + 37) i := ixO (ms37 h) h0
theorem mg71 {γ : Mu} {b : Int} (h : ModG γ b) : γ b 71 = b + 38 := h.2.2.2.2.2.2.2.2.2.2.2.2.2.2.2.2.2.2.2.2.2.2.2.2.2.2.2.2.2.2.2.2.2.2.2.2.2.1
theorem ms38 {G : Gx} {b : Int} (h : ModS G b) : shO G (b + 38) 13 4 := h.2.2.2.2.2.2.2.2.2.2.2.2.2.2.2.2.2.2.2.2.2.2.2.2.2.2.2.2.2.2.2.2.2.2.2.2.2.2.1
theorem mx38 {G : Gx} {b i : Int} (h : ModS G b) (h0 : 0 ≤ i ∧ i < 4) : ixA G 13 (b + 38) i := ixO (ms38 h) h0
theorem mg72 {γ : Mu} {b : Int} (h : ModG γ b) : γ b 72 = b + 39 := h.2.2.2.2.2.2.2.2.2.2.2.2.2.2.2.2.2.2.2.2.2.2.2.2.2.2.2.2.2.2.2.2.2.2.2.2.2.2
theorem ms39 {G : Gx} {b : Int} (h : ModS G b) : shO G (b + 39) 11 144 := h.2.2.2.2.2.2.2.2.2.2.2.2.2.2.2.2.2.2.2.2.2.2.2.2.2.2.2.2.2.2.2.2.2.2.2.2.2.2.2
theorem mx39 {G : Gx} {b i : Int} (h : ModS G b) (h0 : 0 ≤ i ∧ i < 144) : ixA G 11 (b + 39) i := ixO (ms39 h) h0
