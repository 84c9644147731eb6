/-! no frame has more than 2656 fillings -/
theorem bnd : BND := bnd_of d_109
