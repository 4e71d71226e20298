/-! the library's rows of catching (the rest of the library is read from here on) -/
def wd_caught := @Jvm.Stand.thenCaughtThrough
