theorem FrW_t2 {A B C : FN} {lo hi : Nat} (h2 : FrW B C lo hi) (h1 : FrW A B lo hi) : FrW A C lo hi := FrW_t h1 h2
theorem FrW_t3 {A B C D : FN} {lo hi : Nat} (h3 : FrW C D lo hi) (h2 : FrW B C lo hi) (h1 : FrW A B lo hi) : FrW A D lo hi := FrW_t (FrW_t h1 h2) h3
theorem FrW_t4 {A B C D E : FN} {lo hi : Nat} (h4 : FrW D E lo hi) (h3 : FrW C D lo hi) (h2 : FrW B C lo hi) (h1 : FrW A B lo hi) : FrW A E lo hi := FrW_t (FrW_t (FrW_t h1 h2) h3) h4
